theorem dX8_isDrawn_21 : decode cX8_isDrawn 21 = .ok (.aload_n 0, 1) := by decide +kernel
theorem dX8_isDrawn_22 : decode cX8_isDrawn 22 = .ok (.getfield 21, 3) := by decide +kernel
theorem dX8_isDrawn_25 : decode cX8_isDrawn 25 = .ok (.ldc2_w 104, 3) := by decide +kernel
theorem dX8_isDrawn_28 : decode cX8_isDrawn 28 = .ok (.lmul, 1) := by decide +kernel
theorem dX8_isDrawn_29 : decode cX8_isDrawn 29 = .ok (.ldc2_w 106, 3) := by decide +kernel
theorem dX8_isDrawn_32 : decode cX8_isDrawn 32 = .ok (.ladd, 1) := by decide +kernel
theorem dX8_isDrawn_33 : decode cX8_isDrawn 33 = .ok (.ldc2_w 108, 3) := by decide +kernel
theorem dX8_isDrawn_36 : decode cX8_isDrawn 36 = .ok (.land, 1) := by decide +kernel
theorem dX8_isDrawn_37 : decode cX8_isDrawn 37 = .ok (.putfield 21, 3) := by decide +kernel
theorem dX8_isDrawn_40 : decode cX8_isDrawn 40 = .ok (.aload_n 0, 1) := by decide +kernel
theorem dX8_isDrawn_41 : decode cX8_isDrawn 41 = .ok (.getfield 21, 3) := by decide +kernel
theorem dX8_isDrawn_44 : decode cX8_isDrawn 44 = .ok (.bipush 16, 2) := by decide +kernel
theorem dX8_isDrawn_46 : decode cX8_isDrawn 46 = .ok (.lshr, 1) := by decide +kernel
theorem dX8_isDrawn_47 : decode cX8_isDrawn 47 = .ok (.ldc2_w 110, 3) := by decide +kernel
theorem dX8_isDrawn_50 : decode cX8_isDrawn 50 = .ok (.lrem, 1) := by decide +kernel
theorem dX8_isDrawn_51 : decode cX8_isDrawn 51 = .ok (.iload_n 1, 1) := by decide +kernel
theorem dX8_isDrawn_52 : decode cX8_isDrawn 52 = .ok (.i2l, 1) := by decide +kernel
theorem dX8_isDrawn_53 : decode cX8_isDrawn 53 = .ok (.lcmp, 1) := by decide +kernel
theorem dX8_isDrawn_54 : decode cX8_isDrawn 54 = .ok (.ifCond .ge 7, 3) := by decide +kernel
theorem dX8_isDrawn_57 : decode cX8_isDrawn 57 = .ok (.iconst 1, 1) := by decide +kernel
theorem dX8_isDrawn_58 : decode cX8_isDrawn 58 = .ok (.goto 4, 3) := by decide +kernel
theorem dX8_isDrawn_61 : decode cX8_isDrawn 61 = .ok (.iconst 0, 1) := by decide +kernel
theorem dX8_isDrawn_62 : decode cX8_isDrawn 62 = .ok (.ireturn, 1) := by decide +kernel
theorem dX8_hurtOne_0 : decode cX8_hurtOne 0 = .ok (.aload_n 0, 1) := by decide +kernel
theorem dX8_hurtOne_1 : decode cX8_hurtOne 1 = .ok (.getfield 29, 3) := by decide +kernel
theorem dX8_hurtOne_4 : decode cX8_hurtOne 4 = .ok (.iload_n 1, 1) := by decide +kernel
theorem dX8_hurtOne_5 : decode cX8_hurtOne 5 = .ok (.bipush 9, 2) := by decide +kernel
theorem dX8_hurtOne_7 : decode cX8_hurtOne 7 = .ok (.aload_n 0, 1) := by decide +kernel
theorem dX8_hurtOne_8 : decode cX8_hurtOne 8 = .ok (.getfield 29, 3) := by decide +kernel
theorem dX8_hurtOne_11 : decode cX8_hurtOne 11 = .ok (.iload_n 1, 1) := by decide +kernel
theorem dX8_hurtOne_12 : decode cX8_hurtOne 12 = .ok (.iaload, 1) := by decide +kernel
theorem dX8_hurtOne_13 : decode cX8_hurtOne 13 = .ok (.iconst 1, 1) := by decide +kernel
theorem dX8_hurtOne_14 : decode cX8_hurtOne 14 = .ok (.iadd, 1) := by decide +kernel
theorem dX8_hurtOne_15 : decode cX8_hurtOne 15 = .ok (.invokestatic 112, 3) := by decide +kernel
theorem dX8_hurtOne_18 : decode cX8_hurtOne 18 = .ok (.iastore, 1) := by decide +kernel
theorem dX8_hurtOne_19 : decode cX8_hurtOne 19 = .ok (.aload_n 0, 1) := by decide +kernel
theorem dX8_hurtOne_20 : decode cX8_hurtOne 20 = .ok (.dup, 1) := by decide +kernel
theorem dX8_hurtOne_21 : decode cX8_hurtOne 21 = .ok (.getfield 47, 3) := by decide +kernel
theorem dX8_hurtOne_24 : decode cX8_hurtOne 24 = .ok (.iconst 1, 1) := by decide +kernel
theorem dX8_hurtOne_25 : decode cX8_hurtOne 25 = .ok (.iload_n 1, 1) := by decide +kernel
theorem dX8_hurtOne_26 : decode cX8_hurtOne 26 = .ok (.ishl, 1) := by decide +kernel
theorem dX8_hurtOne_27 : decode cX8_hurtOne 27 = .ok (.ior, 1) := by decide +kernel
theorem dX8_hurtOne_28 : decode cX8_hurtOne 28 = .ok (.putfield 47, 3) := by decide +kernel
theorem dX8_hurtOne_31 : decode cX8_hurtOne 31 = .ok (.aload_n 0, 1) := by decide +kernel
theorem dX8_hurtOne_32 : decode cX8_hurtOne 32 = .ok (.iconst 1, 1) := by decide +kernel
theorem dX8_hurtOne_33 : decode cX8_hurtOne 33 = .ok (.iload_n 1, 1) := by decide +kernel
theorem dX8_hurtOne_34 : decode cX8_hurtOne 34 = .ok (.aload_n 0, 1) := by decide +kernel
theorem dX8_hurtOne_35 : decode cX8_hurtOne 35 = .ok (.iload_n 1, 1) := by decide +kernel
theorem dX8_hurtOne_36 : decode cX8_hurtOne 36 = .ok (.invokevirtual 89, 3) := by decide +kernel
theorem dX8_hurtOne_39 : decode cX8_hurtOne 39 = .ok (.invokevirtual 117, 3) := by decide +kernel
theorem dX8_hurtOne_42 : decode cX8_hurtOne 42 = .ok (.lstore_n 2, 1) := by decide +kernel
theorem dX8_hurtOne_43 : decode cX8_hurtOne 43 = .ok (.lload_n 2, 1) := by decide +kernel
theorem dX8_hurtOne_44 : decode cX8_hurtOne 44 = .ok (.ldc2_w 121, 3) := by decide +kernel
theorem dX8_hurtOne_47 : decode cX8_hurtOne 47 = .ok (.lcmp, 1) := by decide +kernel
theorem dX8_hurtOne_48 : decode cX8_hurtOne 48 = .ok (.ifCond .ne 15, 3) := by decide +kernel
theorem dX8_hurtOne_51 : decode cX8_hurtOne 51 = .ok (.aload_n 0, 1) := by decide +kernel
theorem dX8_hurtOne_52 : decode cX8_hurtOne 52 = .ok (.getfield 50, 3) := by decide +kernel
theorem dX8_hurtOne_55 : decode cX8_hurtOne 55 = .ok (.getfield 123, 3) := by decide +kernel
theorem dX8_hurtOne_58 : decode cX8_hurtOne 58 = .ok (.iload_n 1, 1) := by decide +kernel
theorem dX8_hurtOne_59 : decode cX8_hurtOne 59 = .ok (.iaload, 1) := by decide +kernel
theorem dX8_hurtOne_60 : decode cX8_hurtOne 60 = .ok (.goto 9, 3) := by decide +kernel
theorem dX8_hurtOne_63 : decode cX8_hurtOne 63 = .ok (.lload_n 2, 1) := by decide +kernel
theorem dX8_hurtOne_64 : decode cX8_hurtOne 64 = .ok (.bipush 99, 2) := by decide +kernel
theorem dX8_hurtOne_66 : decode cX8_hurtOne 66 = .ok (.invokestatic 126, 3) := by decide +kernel
theorem dX8_hurtOne_69 : decode cX8_hurtOne 69 = .ok (.istore 4, 2) := by decide +kernel
theorem dX8_hurtOne_71 : decode cX8_hurtOne 71 = .ok (.aload_n 0, 1) := by decide +kernel
theorem dX8_hurtOne_72 : decode cX8_hurtOne 72 = .ok (.getfield 50, 3) := by decide +kernel
theorem dX8_hurtOne_75 : decode cX8_hurtOne 75 = .ok (.getfield 130, 3) := by decide +kernel
theorem dX8_hurtOne_78 : decode cX8_hurtOne 78 = .ok (.iload_n 1, 1) := by decide +kernel
theorem dX8_hurtOne_79 : decode cX8_hurtOne 79 = .ok (.iaload, 1) := by decide +kernel
theorem dX8_hurtOne_80 : decode cX8_hurtOne 80 = .ok (.istore 5, 2) := by decide +kernel
theorem dX8_hurtOne_82 : decode cX8_hurtOne 82 = .ok (.aload_n 0, 1) := by decide +kernel
theorem dX8_hurtOne_83 : decode cX8_hurtOne 83 = .ok (.getfield 38, 3) := by decide +kernel
theorem dX8_hurtOne_86 : decode cX8_hurtOne 86 = .ok (.iload 5, 2) := by decide +kernel
theorem dX8_hurtOne_88 : decode cX8_hurtOne 88 = .ok (.sipush 999, 3) := by decide +kernel
theorem dX8_hurtOne_91 : decode cX8_hurtOne 91 = .ok (.aload_n 0, 1) := by decide +kernel
theorem dX8_hurtOne_92 : decode cX8_hurtOne 92 = .ok (.getfield 38, 3) := by decide +kernel
theorem dX8_hurtOne_95 : decode cX8_hurtOne 95 = .ok (.iload 5, 2) := by decide +kernel
theorem dX8_hurtOne_97 : decode cX8_hurtOne 97 = .ok (.iaload, 1) := by decide +kernel
theorem dX8_hurtOne_98 : decode cX8_hurtOne 98 = .ok (.iload 4, 2) := by decide +kernel
theorem dX8_hurtOne_100 : decode cX8_hurtOne 100 = .ok (.iadd, 1) := by decide +kernel
theorem dX8_hurtOne_101 : decode cX8_hurtOne 101 = .ok (.invokestatic 112, 3) := by decide +kernel
theorem dX8_hurtOne_104 : decode cX8_hurtOne 104 = .ok (.iastore, 1) := by decide +kernel
theorem dX8_hurtOne_105 : decode cX8_hurtOne 105 = .ok (.return_, 1) := by decide +kernel
theorem dX8_answerBreaches_0 : decode cX8_answerBreaches 0 = .ok (.iconst 0, 1) := by decide +kernel
theorem dX8_answerBreaches_1 : decode cX8_answerBreaches 1 = .ok (.istore_n 1, 1) := by decide +kernel
theorem dX8_answerBreaches_2 : decode cX8_answerBreaches 2 = .ok (.iload_n 1, 1) := by decide +kernel
theorem dX8_answerBreaches_3 : decode cX8_answerBreaches 3 = .ok (.iconst 2, 1) := by decide +kernel
theorem dX8_answerBreaches_4 : decode cX8_answerBreaches 4 = .ok (.if_icmp .ge 64, 3) := by decide +kernel
theorem dX8_answerBreaches_7 : decode cX8_answerBreaches 7 = .ok (.aload_n 0, 1) := by decide +kernel
theorem dX8_answerBreaches_8 : decode cX8_answerBreaches 8 = .ok (.getfield 38, 3) := by decide +kernel
theorem dX8_answerBreaches_11 : decode cX8_answerBreaches 11 = .ok (.iload_n 1, 1) := by decide +kernel
theorem dX8_answerBreaches_12 : decode cX8_answerBreaches 12 = .ok (.iaload, 1) := by decide +kernel
theorem dX8_answerBreaches_13 : decode cX8_answerBreaches 13 = .ok (.aload_n 0, 1) := by decide +kernel
theorem dX8_answerBreaches_14 : decode cX8_answerBreaches 14 = .ok (.getfield 50, 3) := by decide +kernel
theorem dX8_answerBreaches_17 : decode cX8_answerBreaches 17 = .ok (.getfield 59, 3) := by decide +kernel
theorem dX8_answerBreaches_20 : decode cX8_answerBreaches 20 = .ok (.iconst 1, 1) := by decide +kernel
theorem dX8_answerBreaches_21 : decode cX8_answerBreaches 21 = .ok (.iaload, 1) := by decide +kernel
theorem dX8_answerBreaches_22 : decode cX8_answerBreaches 22 = .ok (.if_icmp .lt 11, 3) := by decide +kernel
theorem dX8_answerBreaches_25 : decode cX8_answerBreaches 25 = .ok (.aload_n 0, 1) := by decide +kernel
theorem dX8_answerBreaches_26 : decode cX8_answerBreaches 26 = .ok (.iload_n 1, 1) := by decide +kernel
theorem dX8_answerBreaches_27 : decode cX8_answerBreaches 27 = .ok (.invokevirtual 133, 3) := by decide +kernel
theorem dX8_answerBreaches_30 : decode cX8_answerBreaches 30 = .ok (.goto 5, 3) := by decide +kernel
theorem dX8_answerBreaches_33 : decode cX8_answerBreaches 33 = .ok (.bipush (-2), 2) := by decide +kernel
theorem dX8_answerBreaches_35 : decode cX8_answerBreaches 35 = .ok (.istore_n 2, 1) := by decide +kernel
theorem dX8_answerBreaches_36 : decode cX8_answerBreaches 36 = .ok (.iload_n 2, 1) := by decide +kernel
theorem dX8_answerBreaches_37 : decode cX8_answerBreaches 37 = .ok (.ifCond .lt 25, 3) := by decide +kernel
theorem dX8_answerBreaches_40 : decode cX8_answerBreaches 40 = .ok (.aload_n 0, 1) := by decide +kernel
theorem dX8_answerBreaches_41 : decode cX8_answerBreaches 41 = .ok (.iload_n 2, 1) := by decide +kernel
theorem dX8_answerBreaches_42 : decode cX8_answerBreaches 42 = .ok (.invokevirtual 100, 3) := by decide +kernel
theorem dX8_answerBreaches_45 : decode cX8_answerBreaches 45 = .ok (.aload_n 0, 1) := by decide +kernel
theorem dX8_answerBreaches_46 : decode cX8_answerBreaches 46 = .ok (.getfield 38, 3) := by decide +kernel
theorem dX8_answerBreaches_49 : decode cX8_answerBreaches 49 = .ok (.iload_n 1, 1) := by decide +kernel
theorem dX8_answerBreaches_50 : decode cX8_answerBreaches 50 = .ok (.iconst 0, 1) := by decide +kernel
theorem dX8_answerBreaches_51 : decode cX8_answerBreaches 51 = .ok (.iastore, 1) := by decide +kernel
theorem dX8_answerBreaches_52 : decode cX8_answerBreaches 52 = .ok (.aload_n 0, 1) := by decide +kernel
theorem dX8_answerBreaches_53 : decode cX8_answerBreaches 53 = .ok (.getfield 41, 3) := by decide +kernel
theorem dX8_answerBreaches_56 : decode cX8_answerBreaches 56 = .ok (.iload_n 1, 1) := by decide +kernel
theorem dX8_answerBreaches_57 : decode cX8_answerBreaches 57 = .ok (.dup2, 1) := by decide +kernel
theorem dX8_answerBreaches_58 : decode cX8_answerBreaches 58 = .ok (.iaload, 1) := by decide +kernel
theorem dX8_answerBreaches_59 : decode cX8_answerBreaches 59 = .ok (.iconst 1, 1) := by decide +kernel
theorem dX8_answerBreaches_60 : decode cX8_answerBreaches 60 = .ok (.iadd, 1) := by decide +kernel
theorem dX8_answerBreaches_61 : decode cX8_answerBreaches 61 = .ok (.iastore, 1) := by decide +kernel
theorem dX8_answerBreaches_62 : decode cX8_answerBreaches 62 = .ok (.iinc 1 1, 3) := by decide +kernel
theorem dX8_answerBreaches_65 : decode cX8_answerBreaches 65 = .ok (.goto (-63), 3) := by decide +kernel
theorem dX8_answerBreaches_68 : decode cX8_answerBreaches 68 = .ok (.return_, 1) := by decide +kernel
theorem dX8_forgive_0 : decode cX8_forgive 0 = .ok (.iconst 0, 1) := by decide +kernel
theorem dX8_forgive_1 : decode cX8_forgive 1 = .ok (.istore_n 1, 1) := by decide +kernel
theorem dX8_forgive_2 : decode cX8_forgive 2 = .ok (.iload_n 1, 1) := by decide +kernel
theorem dX8_forgive_3 : decode cX8_forgive 3 = .ok (.iconst 2, 1) := by decide +kernel
theorem dX8_forgive_4 : decode cX8_forgive 4 = .ok (.if_icmp .ge 71, 3) := by decide +kernel
theorem dX8_forgive_7 : decode cX8_forgive 7 = .ok (.aload_n 0, 1) := by decide +kernel
theorem dX8_forgive_8 : decode cX8_forgive 8 = .ok (.getfield 47, 3) := by decide +kernel
theorem dX8_forgive_11 : decode cX8_forgive 11 = .ok (.aload_n 0, 1) := by decide +kernel
theorem dX8_forgive_12 : decode cX8_forgive 12 = .ok (.getfield 50, 3) := by decide +kernel
theorem dX8_forgive_15 : decode cX8_forgive 15 = .ok (.getfield 136, 3) := by decide +kernel
theorem dX8_forgive_18 : decode cX8_forgive 18 = .ok (.iload_n 1, 1) := by decide +kernel
theorem dX8_forgive_19 : decode cX8_forgive 19 = .ok (.iaload, 1) := by decide +kernel
theorem dX8_forgive_20 : decode cX8_forgive 20 = .ok (.iand, 1) := by decide +kernel
theorem dX8_forgive_21 : decode cX8_forgive 21 = .ok (.ifCond .ne 48, 3) := by decide +kernel
theorem dX8_forgive_24 : decode cX8_forgive 24 = .ok (.aload_n 0, 1) := by decide +kernel
theorem dX8_forgive_25 : decode cX8_forgive 25 = .ok (.iload_n 1, 1) := by decide +kernel
theorem dX8_forgive_26 : decode cX8_forgive 26 = .ok (.invokevirtual 139, 3) := by decide +kernel
theorem dX8_forgive_29 : decode cX8_forgive 29 = .ok (.lstore_n 2, 1) := by decide +kernel
theorem dX8_forgive_30 : decode cX8_forgive 30 = .ok (.lload_n 2, 1) := by decide +kernel
theorem dX8_forgive_31 : decode cX8_forgive 31 = .ok (.ldc2_w 121, 3) := by decide +kernel
theorem dX8_forgive_34 : decode cX8_forgive 34 = .ok (.lcmp, 1) := by decide +kernel
theorem dX8_forgive_35 : decode cX8_forgive 35 = .ok (.ifCond .ne 7, 3) := by decide +kernel
theorem dX8_forgive_38 : decode cX8_forgive 38 = .ok (.iconst 1, 1) := by decide +kernel
theorem dX8_forgive_39 : decode cX8_forgive 39 = .ok (.goto 9, 3) := by decide +kernel
theorem dX8_forgive_42 : decode cX8_forgive 42 = .ok (.lload_n 2, 1) := by decide +kernel
theorem dX8_forgive_43 : decode cX8_forgive 43 = .ok (.bipush 99, 2) := by decide +kernel
theorem dX8_forgive_45 : decode cX8_forgive 45 = .ok (.invokestatic 126, 3) := by decide +kernel
theorem dX8_forgive_48 : decode cX8_forgive 48 = .ok (.istore 4, 2) := by decide +kernel
theorem dX8_forgive_50 : decode cX8_forgive 50 = .ok (.aload_n 0, 1) := by decide +kernel
theorem dX8_forgive_51 : decode cX8_forgive 51 = .ok (.getfield 38, 3) := by decide +kernel
theorem dX8_forgive_54 : decode cX8_forgive 54 = .ok (.iload_n 1, 1) := by decide +kernel
theorem dX8_forgive_55 : decode cX8_forgive 55 = .ok (.iconst 0, 1) := by decide +kernel
theorem dX8_forgive_56 : decode cX8_forgive 56 = .ok (.aload_n 0, 1) := by decide +kernel
theorem dX8_forgive_57 : decode cX8_forgive 57 = .ok (.getfield 38, 3) := by decide +kernel
theorem dX8_forgive_60 : decode cX8_forgive 60 = .ok (.iload_n 1, 1) := by decide +kernel
theorem dX8_forgive_61 : decode cX8_forgive 61 = .ok (.iaload, 1) := by decide +kernel
theorem dX8_forgive_62 : decode cX8_forgive 62 = .ok (.iload 4, 2) := by decide +kernel
theorem dX8_forgive_64 : decode cX8_forgive 64 = .ok (.isub, 1) := by decide +kernel
theorem dX8_forgive_65 : decode cX8_forgive 65 = .ok (.invokestatic 143, 3) := by decide +kernel
theorem dX8_forgive_68 : decode cX8_forgive 68 = .ok (.iastore, 1) := by decide +kernel
theorem dX8_forgive_69 : decode cX8_forgive 69 = .ok (.iinc 1 1, 3) := by decide +kernel
theorem dX8_forgive_72 : decode cX8_forgive 72 = .ok (.goto (-70), 3) := by decide +kernel
theorem dX8_forgive_75 : decode cX8_forgive 75 = .ok (.return_, 1) := by decide +kernel
theorem dX8_growFond_0 : decode cX8_growFond 0 = .ok (.iconst 0, 1) := by decide +kernel
theorem dX8_growFond_1 : decode cX8_growFond 1 = .ok (.istore_n 1, 1) := by decide +kernel
theorem dX8_growFond_2 : decode cX8_growFond 2 = .ok (.iload_n 1, 1) := by decide +kernel
theorem dX8_growFond_3 : decode cX8_growFond 3 = .ok (.aload_n 0, 1) := by decide +kernel
theorem dX8_growFond_4 : decode cX8_growFond 4 = .ok (.getfield 50, 3) := by decide +kernel
theorem dX8_growFond_7 : decode cX8_growFond 7 = .ok (.getfield 54, 3) := by decide +kernel
theorem dX8_growFond_10 : decode cX8_growFond 10 = .ok (.if_icmp .ge 73, 3) := by decide +kernel
theorem dX8_growFond_13 : decode cX8_growFond 13 = .ok (.aload_n 0, 1) := by decide +kernel
theorem dX8_growFond_14 : decode cX8_growFond 14 = .ok (.iload_n 1, 1) := by decide +kernel
theorem dX8_growFond_15 : decode cX8_growFond 15 = .ok (.invokevirtual 85, 3) := by decide +kernel
theorem dX8_growFond_18 : decode cX8_growFond 18 = .ok (.ifCond .eq 59, 3) := by decide +kernel
theorem dX8_growFond_21 : decode cX8_growFond 21 = .ok (.aload_n 0, 1) := by decide +kernel
theorem dX8_growFond_22 : decode cX8_growFond 22 = .ok (.getfield 47, 3) := by decide +kernel
theorem dX8_growFond_25 : decode cX8_growFond 25 = .ok (.iload_n 1, 1) := by decide +kernel
theorem dX8_growFond_26 : decode cX8_growFond 26 = .ok (.ishr, 1) := by decide +kernel
theorem dX8_growFond_27 : decode cX8_growFond 27 = .ok (.iconst 1, 1) := by decide +kernel
theorem dX8_growFond_28 : decode cX8_growFond 28 = .ok (.iand, 1) := by decide +kernel
theorem dX8_growFond_29 : decode cX8_growFond 29 = .ok (.iconst 1, 1) := by decide +kernel
theorem dX8_growFond_30 : decode cX8_growFond 30 = .ok (.if_icmp .ne 7, 3) := by decide +kernel
theorem dX8_growFond_33 : decode cX8_growFond 33 = .ok (.iconst 1, 1) := by decide +kernel
theorem dX8_growFond_34 : decode cX8_growFond 34 = .ok (.goto 4, 3) := by decide +kernel
theorem dX8_growFond_37 : decode cX8_growFond 37 = .ok (.iconst 0, 1) := by decide +kernel
theorem dX8_growFond_38 : decode cX8_growFond 38 = .ok (.istore_n 2, 1) := by decide +kernel
theorem dX8_growFond_39 : decode cX8_growFond 39 = .ok (.aload_n 0, 1) := by decide +kernel
theorem dX8_growFond_40 : decode cX8_growFond 40 = .ok (.getfield 32, 3) := by decide +kernel
theorem dX8_growFond_43 : decode cX8_growFond 43 = .ok (.iload_n 1, 1) := by decide +kernel
theorem dX8_growFond_44 : decode cX8_growFond 44 = .ok (.iload_n 2, 1) := by decide +kernel
theorem dX8_growFond_45 : decode cX8_growFond 45 = .ok (.ifCond .eq 18, 3) := by decide +kernel
theorem dX8_growFond_48 : decode cX8_growFond 48 = .ok (.iconst 0, 1) := by decide +kernel
theorem dX8_growFond_49 : decode cX8_growFond 49 = .ok (.aload_n 0, 1) := by decide +kernel
theorem dX8_growFond_50 : decode cX8_growFond 50 = .ok (.getfield 32, 3) := by decide +kernel
theorem dX8_growFond_53 : decode cX8_growFond 53 = .ok (.iload_n 1, 1) := by decide +kernel
theorem dX8_growFond_54 : decode cX8_growFond 54 = .ok (.iaload, 1) := by decide +kernel
theorem dX8_growFond_55 : decode cX8_growFond 55 = .ok (.iconst 2, 1) := by decide +kernel
theorem dX8_growFond_56 : decode cX8_growFond 56 = .ok (.isub, 1) := by decide +kernel
theorem dX8_growFond_57 : decode cX8_growFond 57 = .ok (.invokestatic 143, 3) := by decide +kernel
theorem dX8_growFond_60 : decode cX8_growFond 60 = .ok (.goto 16, 3) := by decide +kernel
theorem dX8_growFond_63 : decode cX8_growFond 63 = .ok (.bipush 9, 2) := by decide +kernel
theorem dX8_growFond_65 : decode cX8_growFond 65 = .ok (.aload_n 0, 1) := by decide +kernel
theorem dX8_growFond_66 : decode cX8_growFond 66 = .ok (.getfield 32, 3) := by decide +kernel
theorem dX8_growFond_69 : decode cX8_growFond 69 = .ok (.iload_n 1, 1) := by decide +kernel
theorem dX8_growFond_70 : decode cX8_growFond 70 = .ok (.iaload, 1) := by decide +kernel
theorem dX8_growFond_71 : decode cX8_growFond 71 = .ok (.iconst 1, 1) := by decide +kernel
theorem dX8_growFond_72 : decode cX8_growFond 72 = .ok (.iadd, 1) := by decide +kernel
theorem dX8_growFond_73 : decode cX8_growFond 73 = .ok (.invokestatic 112, 3) := by decide +kernel
theorem dX8_growFond_76 : decode cX8_growFond 76 = .ok (.iastore, 1) := by decide +kernel
theorem dX8_growFond_77 : decode cX8_growFond 77 = .ok (.iinc 1 1, 3) := by decide +kernel
theorem dX8_growFond_80 : decode cX8_growFond 80 = .ok (.goto (-78), 3) := by decide +kernel
theorem dX8_growFond_83 : decode cX8_growFond 83 = .ok (.return_, 1) := by decide +kernel
theorem dX8_oddsFor_0 : decode cX8_oddsFor 0 = .ok (.aload_n 0, 1) := by decide +kernel
theorem dX8_oddsFor_1 : decode cX8_oddsFor 1 = .ok (.iconst 0, 1) := by decide +kernel
theorem dX8_oddsFor_2 : decode cX8_oddsFor 2 = .ok (.iload_n 1, 1) := by decide +kernel
theorem dX8_oddsFor_3 : decode cX8_oddsFor 3 = .ok (.iload_n 2, 1) := by decide +kernel
theorem dX8_oddsFor_4 : decode cX8_oddsFor 4 = .ok (.invokevirtual 117, 3) := by decide +kernel
theorem dX8_oddsFor_7 : decode cX8_oddsFor 7 = .ok (.lstore_n 3, 1) := by decide +kernel
theorem dX8_oddsFor_8 : decode cX8_oddsFor 8 = .ok (.lload_n 3, 1) := by decide +kernel
theorem dX8_oddsFor_9 : decode cX8_oddsFor 9 = .ok (.ldc2_w 121, 3) := by decide +kernel
theorem dX8_oddsFor_12 : decode cX8_oddsFor 12 = .ok (.lcmp, 1) := by decide +kernel
theorem dX8_oddsFor_13 : decode cX8_oddsFor 13 = .ok (.ifCond .ne 24, 3) := by decide +kernel
theorem dX8_oddsFor_16 : decode cX8_oddsFor 16 = .ok (.iconst 0, 1) := by decide +kernel
theorem dX8_oddsFor_17 : decode cX8_oddsFor 17 = .ok (.aload_n 0, 1) := by decide +kernel
theorem dX8_oddsFor_18 : decode cX8_oddsFor 18 = .ok (.getfield 50, 3) := by decide +kernel
theorem dX8_oddsFor_21 : decode cX8_oddsFor 21 = .ok (.getfield 59, 3) := by decide +kernel
theorem dX8_oddsFor_24 : decode cX8_oddsFor 24 = .ok (.iconst 0, 1) := by decide +kernel
theorem dX8_oddsFor_25 : decode cX8_oddsFor 25 = .ok (.iaload, 1) := by decide +kernel
theorem dX8_oddsFor_26 : decode cX8_oddsFor 26 = .ok (.bipush 10, 2) := by decide +kernel
theorem dX8_oddsFor_28 : decode cX8_oddsFor 28 = .ok (.iload_n 2, 1) := by decide +kernel
theorem dX8_oddsFor_29 : decode cX8_oddsFor 29 = .ok (.imul, 1) := by decide +kernel
theorem dX8_oddsFor_30 : decode cX8_oddsFor 30 = .ok (.isub, 1) := by decide +kernel
theorem dX8_oddsFor_31 : decode cX8_oddsFor 31 = .ok (.invokestatic 143, 3) := by decide +kernel
theorem dX8_oddsFor_34 : decode cX8_oddsFor 34 = .ok (.goto 9, 3) := by decide +kernel
theorem dX8_oddsFor_37 : decode cX8_oddsFor 37 = .ok (.lload_n 3, 1) := by decide +kernel
theorem dX8_oddsFor_38 : decode cX8_oddsFor 38 = .ok (.bipush 100, 2) := by decide +kernel
theorem dX8_oddsFor_40 : decode cX8_oddsFor 40 = .ok (.invokestatic 126, 3) := by decide +kernel
theorem dX8_oddsFor_43 : decode cX8_oddsFor 43 = .ok (.ireturn, 1) := by decide +kernel
theorem dX8_dollLaw_0 : decode cX8_dollLaw 0 = .ok (.aload_n 0, 1) := by decide +kernel
theorem dX8_dollLaw_1 : decode cX8_dollLaw 1 = .ok (.getfield 50, 3) := by decide +kernel
theorem dX8_dollLaw_4 : decode cX8_dollLaw 4 = .ok (.getfield 146, 3) := by decide +kernel
theorem dX8_dollLaw_7 : decode cX8_dollLaw 7 = .ok (.iload_n 1, 1) := by decide +kernel
theorem dX8_dollLaw_8 : decode cX8_dollLaw 8 = .ok (.aaload, 1) := by decide +kernel
theorem dX8_dollLaw_9 : decode cX8_dollLaw 9 = .ok (.astore 4, 2) := by decide +kernel
theorem dX8_dollLaw_11 : decode cX8_dollLaw 11 = .ok (.aload 4, 2) := by decide +kernel
theorem dX8_dollLaw_13 : decode cX8_dollLaw 13 = .ok (.getfield 150, 3) := by decide +kernel
theorem dX8_dollLaw_16 : decode cX8_dollLaw 16 = .ok (.ifCond .ne 7, 3) := by decide +kernel
theorem dX8_dollLaw_19 : decode cX8_dollLaw 19 = .ok (.ldc2_w 121, 3) := by decide +kernel
theorem dX8_dollLaw_22 : decode cX8_dollLaw 22 = .ok (.lreturn, 1) := by decide +kernel
theorem dX8_dollLaw_23 : decode cX8_dollLaw 23 = .ok (.aload_n 0, 1) := by decide +kernel
theorem dX8_dollLaw_24 : decode cX8_dollLaw 24 = .ok (.getfield 44, 3) := by decide +kernel
theorem dX8_dollLaw_27 : decode cX8_dollLaw 27 = .ok (.iconst 0, 1) := by decide +kernel
theorem dX8_dollLaw_28 : decode cX8_dollLaw 28 = .ok (.aload_n 0, 1) := by decide +kernel
theorem dX8_dollLaw_29 : decode cX8_dollLaw 29 = .ok (.getfield 50, 3) := by decide +kernel
theorem dX8_dollLaw_32 : decode cX8_dollLaw 32 = .ok (.getfield 123, 3) := by decide +kernel
theorem dX8_dollLaw_35 : decode cX8_dollLaw 35 = .ok (.iload_n 2, 1) := by decide +kernel
theorem dX8_dollLaw_36 : decode cX8_dollLaw 36 = .ok (.iaload, 1) := by decide +kernel
theorem dX8_dollLaw_37 : decode cX8_dollLaw 37 = .ok (.iastore, 1) := by decide +kernel
theorem dX8_dollLaw_38 : decode cX8_dollLaw 38 = .ok (.aload_n 0, 1) := by decide +kernel
theorem dX8_dollLaw_39 : decode cX8_dollLaw 39 = .ok (.getfield 44, 3) := by decide +kernel
theorem dX8_dollLaw_42 : decode cX8_dollLaw 42 = .ok (.iconst 1, 1) := by decide +kernel
theorem dX8_dollLaw_43 : decode cX8_dollLaw 43 = .ok (.aload_n 0, 1) := by decide +kernel
theorem dX8_dollLaw_44 : decode cX8_dollLaw 44 = .ok (.getfield 50, 3) := by decide +kernel
theorem dX8_dollLaw_47 : decode cX8_dollLaw 47 = .ok (.getfield 155, 3) := by decide +kernel
theorem dX8_dollLaw_50 : decode cX8_dollLaw 50 = .ok (.iload_n 2, 1) := by decide +kernel
theorem dX8_dollLaw_51 : decode cX8_dollLaw 51 = .ok (.iaload, 1) := by decide +kernel
theorem dX8_dollLaw_52 : decode cX8_dollLaw 52 = .ok (.iastore, 1) := by decide +kernel
theorem dX8_dollLaw_53 : decode cX8_dollLaw 53 = .ok (.aload_n 0, 1) := by decide +kernel
theorem dX8_dollLaw_54 : decode cX8_dollLaw 54 = .ok (.getfield 44, 3) := by decide +kernel
theorem dX8_dollLaw_57 : decode cX8_dollLaw 57 = .ok (.iconst 2, 1) := by decide +kernel
theorem dX8_dollLaw_58 : decode cX8_dollLaw 58 = .ok (.aload_n 0, 1) := by decide +kernel
theorem dX8_dollLaw_59 : decode cX8_dollLaw 59 = .ok (.getfield 29, 3) := by decide +kernel
theorem dX8_dollLaw_62 : decode cX8_dollLaw 62 = .ok (.iload_n 2, 1) := by decide +kernel
theorem dX8_dollLaw_63 : decode cX8_dollLaw 63 = .ok (.iaload, 1) := by decide +kernel
theorem dX8_dollLaw_64 : decode cX8_dollLaw 64 = .ok (.iastore, 1) := by decide +kernel
theorem dX8_dollLaw_65 : decode cX8_dollLaw 65 = .ok (.aload_n 0, 1) := by decide +kernel
theorem dX8_dollLaw_66 : decode cX8_dollLaw 66 = .ok (.getfield 44, 3) := by decide +kernel
theorem dX8_dollLaw_69 : decode cX8_dollLaw 69 = .ok (.iconst 3, 1) := by decide +kernel
theorem dX8_dollLaw_70 : decode cX8_dollLaw 70 = .ok (.iload_n 3, 1) := by decide +kernel
theorem dX8_dollLaw_71 : decode cX8_dollLaw 71 = .ok (.iastore, 1) := by decide +kernel
theorem dX8_dollLaw_72 : decode cX8_dollLaw 72 = .ok (.aload_n 0, 1) := by decide +kernel
theorem dX8_dollLaw_73 : decode cX8_dollLaw 73 = .ok (.getfield 44, 3) := by decide +kernel
theorem dX8_dollLaw_76 : decode cX8_dollLaw 76 = .ok (.iconst 4, 1) := by decide +kernel
theorem dX8_dollLaw_77 : decode cX8_dollLaw 77 = .ok (.aload_n 0, 1) := by decide +kernel
theorem dX8_dollLaw_78 : decode cX8_dollLaw 78 = .ok (.getfield 38, 3) := by decide +kernel
theorem dX8_dollLaw_81 : decode cX8_dollLaw 81 = .ok (.aload_n 0, 1) := by decide +kernel
theorem dX8_dollLaw_82 : decode cX8_dollLaw 82 = .ok (.getfield 50, 3) := by decide +kernel
theorem dX8_dollLaw_85 : decode cX8_dollLaw 85 = .ok (.getfield 130, 3) := by decide +kernel
theorem dX8_dollLaw_88 : decode cX8_dollLaw 88 = .ok (.iload_n 2, 1) := by decide +kernel
theorem dX8_dollLaw_89 : decode cX8_dollLaw 89 = .ok (.iaload, 1) := by decide +kernel
theorem dX8_dollLaw_90 : decode cX8_dollLaw 90 = .ok (.iaload, 1) := by decide +kernel
theorem dX8_dollLaw_91 : decode cX8_dollLaw 91 = .ok (.iastore, 1) := by decide +kernel
theorem dX8_dollLaw_92 : decode cX8_dollLaw 92 = .ok (.aload_n 0, 1) := by decide +kernel
theorem dX8_dollLaw_93 : decode cX8_dollLaw 93 = .ok (.getfield 44, 3) := by decide +kernel
theorem dX8_dollLaw_96 : decode cX8_dollLaw 96 = .ok (.iconst 5, 1) := by decide +kernel
theorem dX8_dollLaw_97 : decode cX8_dollLaw 97 = .ok (.aload_n 0, 1) := by decide +kernel
theorem dX8_dollLaw_98 : decode cX8_dollLaw 98 = .ok (.getfield 32, 3) := by decide +kernel
theorem dX8_dollLaw_101 : decode cX8_dollLaw 101 = .ok (.iload_n 2, 1) := by decide +kernel
theorem dX8_dollLaw_102 : decode cX8_dollLaw 102 = .ok (.iaload, 1) := by decide +kernel
theorem dX8_dollLaw_103 : decode cX8_dollLaw 103 = .ok (.iastore, 1) := by decide +kernel
theorem dX8_dollLaw_104 : decode cX8_dollLaw 104 = .ok (.aload_n 0, 1) := by decide +kernel
theorem dX8_dollLaw_105 : decode cX8_dollLaw 105 = .ok (.getfield 44, 3) := by decide +kernel
theorem dX8_dollLaw_108 : decode cX8_dollLaw 108 = .ok (.bipush 6, 2) := by decide +kernel
theorem dX8_dollLaw_110 : decode cX8_dollLaw 110 = .ok (.aload_n 0, 1) := by decide +kernel
theorem dX8_dollLaw_111 : decode cX8_dollLaw 111 = .ok (.getfield 9, 3) := by decide +kernel
theorem dX8_dollLaw_114 : decode cX8_dollLaw 114 = .ok (.iastore, 1) := by decide +kernel
theorem dX8_dollLaw_115 : decode cX8_dollLaw 115 = .ok (.aload 4, 2) := by decide +kernel
theorem dX8_dollLaw_117 : decode cX8_dollLaw 117 = .ok (.aload_n 0, 1) := by decide +kernel
theorem dX8_dollLaw_118 : decode cX8_dollLaw 118 = .ok (.getfield 44, 3) := by decide +kernel
theorem dX8_dollLaw_121 : decode cX8_dollLaw 121 = .ok (.invokevirtual 158, 3) := by decide +kernel
theorem dX8_dollLaw_124 : decode cX8_dollLaw 124 = .ok (.lreturn, 1) := by decide +kernel
theorem dX8_calmLaw_0 : decode cX8_calmLaw 0 = .ok (.aload_n 0, 1) := by decide +kernel
theorem dX8_calmLaw_1 : decode cX8_calmLaw 1 = .ok (.getfield 50, 3) := by decide +kernel
theorem dX8_calmLaw_4 : decode cX8_calmLaw 4 = .ok (.getfield 146, 3) := by decide +kernel
theorem dX8_calmLaw_7 : decode cX8_calmLaw 7 = .ok (.iconst 2, 1) := by decide +kernel
theorem dX8_calmLaw_8 : decode cX8_calmLaw 8 = .ok (.aaload, 1) := by decide +kernel
theorem dX8_calmLaw_9 : decode cX8_calmLaw 9 = .ok (.astore_n 2, 1) := by decide +kernel
theorem dX8_calmLaw_10 : decode cX8_calmLaw 10 = .ok (.aload_n 2, 1) := by decide +kernel
theorem dX8_calmLaw_11 : decode cX8_calmLaw 11 = .ok (.getfield 150, 3) := by decide +kernel
theorem dX8_calmLaw_14 : decode cX8_calmLaw 14 = .ok (.ifCond .ne 7, 3) := by decide +kernel
theorem dX8_calmLaw_17 : decode cX8_calmLaw 17 = .ok (.ldc2_w 121, 3) := by decide +kernel
theorem dX8_calmLaw_20 : decode cX8_calmLaw 20 = .ok (.lreturn, 1) := by decide +kernel
theorem dX8_calmLaw_21 : decode cX8_calmLaw 21 = .ok (.iconst 0, 1) := by decide +kernel
theorem dX8_calmLaw_22 : decode cX8_calmLaw 22 = .ok (.istore_n 3, 1) := by decide +kernel
theorem dX8_calmLaw_23 : decode cX8_calmLaw 23 = .ok (.iload_n 3, 1) := by decide +kernel
theorem dX8_calmLaw_24 : decode cX8_calmLaw 24 = .ok (.bipush 7, 2) := by decide +kernel
theorem dX8_calmLaw_26 : decode cX8_calmLaw 26 = .ok (.if_icmp .ge 16, 3) := by decide +kernel
theorem dX8_calmLaw_29 : decode cX8_calmLaw 29 = .ok (.aload_n 0, 1) := by decide +kernel
theorem dX8_calmLaw_30 : decode cX8_calmLaw 30 = .ok (.getfield 44, 3) := by decide +kernel
theorem dX8_calmLaw_33 : decode cX8_calmLaw 33 = .ok (.iload_n 3, 1) := by decide +kernel
theorem dX8_calmLaw_34 : decode cX8_calmLaw 34 = .ok (.iconst 0, 1) := by decide +kernel
theorem dX8_calmLaw_35 : decode cX8_calmLaw 35 = .ok (.iastore, 1) := by decide +kernel
theorem dX8_calmLaw_36 : decode cX8_calmLaw 36 = .ok (.iinc 3 1, 3) := by decide +kernel
theorem dX8_calmLaw_39 : decode cX8_calmLaw 39 = .ok (.goto (-16), 3) := by decide +kernel
theorem dX8_calmLaw_42 : decode cX8_calmLaw 42 = .ok (.aload_n 0, 1) := by decide +kernel
theorem dX8_calmLaw_43 : decode cX8_calmLaw 43 = .ok (.getfield 44, 3) := by decide +kernel
theorem dX8_calmLaw_46 : decode cX8_calmLaw 46 = .ok (.iconst 4, 1) := by decide +kernel
theorem dX8_calmLaw_47 : decode cX8_calmLaw 47 = .ok (.aload_n 0, 1) := by decide +kernel
theorem dX8_calmLaw_48 : decode cX8_calmLaw 48 = .ok (.getfield 38, 3) := by decide +kernel
theorem dX8_calmLaw_51 : decode cX8_calmLaw 51 = .ok (.iload_n 1, 1) := by decide +kernel
theorem dX8_calmLaw_52 : decode cX8_calmLaw 52 = .ok (.iaload, 1) := by decide +kernel
theorem dX8_calmLaw_53 : decode cX8_calmLaw 53 = .ok (.iastore, 1) := by decide +kernel
theorem dX8_calmLaw_54 : decode cX8_calmLaw 54 = .ok (.aload_n 0, 1) := by decide +kernel
theorem dX8_calmLaw_55 : decode cX8_calmLaw 55 = .ok (.getfield 44, 3) := by decide +kernel
theorem dX8_calmLaw_58 : decode cX8_calmLaw 58 = .ok (.bipush 6, 2) := by decide +kernel
theorem dX8_calmLaw_60 : decode cX8_calmLaw 60 = .ok (.aload_n 0, 1) := by decide +kernel
theorem dX8_calmLaw_61 : decode cX8_calmLaw 61 = .ok (.getfield 9, 3) := by decide +kernel
theorem dX8_calmLaw_64 : decode cX8_calmLaw 64 = .ok (.iastore, 1) := by decide +kernel
theorem dX8_calmLaw_65 : decode cX8_calmLaw 65 = .ok (.aload_n 2, 1) := by decide +kernel
theorem dX8_calmLaw_66 : decode cX8_calmLaw 66 = .ok (.aload_n 0, 1) := by decide +kernel
theorem dX8_calmLaw_67 : decode cX8_calmLaw 67 = .ok (.getfield 44, 3) := by decide +kernel
theorem dX8_calmLaw_70 : decode cX8_calmLaw 70 = .ok (.invokevirtual 158, 3) := by decide +kernel
theorem dX8_calmLaw_73 : decode cX8_calmLaw 73 = .ok (.lreturn, 1) := by decide +kernel
theorem dX8_within_0 : decode cX8_within 0 = .ok (.lconst 0, 1) := by decide +kernel
theorem dX8_within_1 : decode cX8_within 1 = .ok (.iload_n 2, 1) := by decide +kernel
theorem dX8_within_2 : decode cX8_within 2 = .ok (.i2l, 1) := by decide +kernel
theorem dX8_within_3 : decode cX8_within 3 = .ok (.lload_n 0, 1) := by decide +kernel
theorem dX8_within_4 : decode cX8_within 4 = .ok (.invokestatic 162, 3) := by decide +kernel
theorem dX8_within_7 : decode cX8_within 7 = .ok (.invokestatic 165, 3) := by decide +kernel
theorem dX8_within_10 : decode cX8_within 10 = .ok (.l2i, 1) := by decide +kernel
theorem dX8_within_11 : decode cX8_within 11 = .ok (.ireturn, 1) := by decide +kernel
theorem dX8_isHeld_0 : decode cX8_isHeld 0 = .ok (.aload_n 0, 1) := by decide +kernel
theorem dX8_isHeld_1 : decode cX8_isHeld 1 = .ok (.getfield 15, 3) := by decide +kernel
theorem dX8_isHeld_4 : decode cX8_isHeld 4 = .ok (.iload_n 1, 1) := by decide +kernel
theorem dX8_isHeld_5 : decode cX8_isHeld 5 = .ok (.ishr, 1) := by decide +kernel
theorem dX8_isHeld_6 : decode cX8_isHeld 6 = .ok (.iconst 1, 1) := by decide +kernel
theorem dX8_isHeld_7 : decode cX8_isHeld 7 = .ok (.iand, 1) := by decide +kernel
theorem dX8_isHeld_8 : decode cX8_isHeld 8 = .ok (.iconst 1, 1) := by decide +kernel
theorem dX8_isHeld_9 : decode cX8_isHeld 9 = .ok (.if_icmp .ne 7, 3) := by decide +kernel
theorem dX8_isHeld_12 : decode cX8_isHeld 12 = .ok (.iconst 1, 1) := by decide +kernel
theorem dX8_isHeld_13 : decode cX8_isHeld 13 = .ok (.goto 4, 3) := by decide +kernel
theorem dX8_isHeld_16 : decode cX8_isHeld 16 = .ok (.iconst 0, 1) := by decide +kernel
theorem dX8_isHeld_17 : decode cX8_isHeld 17 = .ok (.ireturn, 1) := by decide +kernel
theorem dX8_careFor_0 : decode cX8_careFor 0 = .ok (.aload_n 0, 1) := by decide +kernel
theorem dX8_careFor_1 : decode cX8_careFor 1 = .ok (.getfield 35, 3) := by decide +kernel
theorem dX8_careFor_4 : decode cX8_careFor 4 = .ok (.aload_n 0, 1) := by decide +kernel
theorem dX8_careFor_5 : decode cX8_careFor 5 = .ok (.getfield 25, 3) := by decide +kernel
theorem dX8_careFor_8 : decode cX8_careFor 8 = .ok (.iload_n 1, 1) := by decide +kernel
theorem dX8_careFor_9 : decode cX8_careFor 9 = .ok (.iaload, 1) := by decide +kernel
theorem dX8_careFor_10 : decode cX8_careFor 10 = .ok (.iaload, 1) := by decide +kernel
theorem dX8_careFor_11 : decode cX8_careFor 11 = .ok (.ireturn, 1) := by decide +kernel
theorem dX8_holds_0 : decode cX8_holds 0 = .ok (.aload_n 0, 1) := by decide +kernel
theorem dX8_holds_1 : decode cX8_holds 1 = .ok (.getfield 15, 3) := by decide +kernel
theorem dX8_holds_4 : decode cX8_holds 4 = .ok (.aload_n 0, 1) := by decide +kernel
theorem dX8_holds_5 : decode cX8_holds 5 = .ok (.getfield 50, 3) := by decide +kernel
theorem dX8_holds_8 : decode cX8_holds 8 = .ok (.getfield 136, 3) := by decide +kernel
theorem dX8_holds_11 : decode cX8_holds 11 = .ok (.iconst 1, 1) := by decide +kernel
theorem dX8_holds_12 : decode cX8_holds 12 = .ok (.iload_n 1, 1) := by decide +kernel
theorem dX8_holds_13 : decode cX8_holds 13 = .ok (.isub, 1) := by decide +kernel
theorem dX8_holds_14 : decode cX8_holds 14 = .ok (.iaload, 1) := by decide +kernel
theorem dX8_holds_15 : decode cX8_holds 15 = .ok (.iand, 1) := by decide +kernel
theorem dX8_holds_16 : decode cX8_holds 16 = .ok (.ireturn, 1) := by decide +kernel
theorem dX8_ownHeld_0 : decode cX8_ownHeld 0 = .ok (.aload_n 0, 1) := by decide +kernel
theorem dX8_ownHeld_1 : decode cX8_ownHeld 1 = .ok (.getfield 15, 3) := by decide +kernel
theorem dX8_ownHeld_4 : decode cX8_ownHeld 4 = .ok (.aload_n 0, 1) := by decide +kernel
theorem dX8_ownHeld_5 : decode cX8_ownHeld 5 = .ok (.getfield 50, 3) := by decide +kernel
theorem dX8_ownHeld_8 : decode cX8_ownHeld 8 = .ok (.getfield 136, 3) := by decide +kernel
theorem dX8_ownHeld_11 : decode cX8_ownHeld 11 = .ok (.iload_n 1, 1) := by decide +kernel
theorem dX8_ownHeld_12 : decode cX8_ownHeld 12 = .ok (.iaload, 1) := by decide +kernel
theorem dX8_ownHeld_13 : decode cX8_ownHeld 13 = .ok (.iand, 1) := by decide +kernel
theorem dX8_ownHeld_14 : decode cX8_ownHeld 14 = .ok (.ireturn, 1) := by decide +kernel
theorem dX8_mostLoved_0 : decode cX8_mostLoved 0 = .ok (.aload_n 0, 1) := by decide +kernel
theorem dX8_mostLoved_1 : decode cX8_mostLoved 1 = .ok (.iload_n 1, 1) := by decide +kernel
theorem dX8_mostLoved_2 : decode cX8_mostLoved 2 = .ok (.invokevirtual 167, 3) := by decide +kernel
theorem dX8_mostLoved_5 : decode cX8_mostLoved 5 = .ok (.istore_n 2, 1) := by decide +kernel
theorem dX8_mostLoved_6 : decode cX8_mostLoved 6 = .ok (.bipush (-2), 2) := by decide +kernel
theorem dX8_mostLoved_8 : decode cX8_mostLoved 8 = .ok (.istore_n 3, 1) := by decide +kernel
theorem dX8_mostLoved_9 : decode cX8_mostLoved 9 = .ok (.iconst (-1), 1) := by decide +kernel
theorem dX8_mostLoved_10 : decode cX8_mostLoved 10 = .ok (.istore 4, 2) := by decide +kernel
theorem dX8_mostLoved_12 : decode cX8_mostLoved 12 = .ok (.iconst 0, 1) := by decide +kernel
theorem dX8_mostLoved_13 : decode cX8_mostLoved 13 = .ok (.istore 5, 2) := by decide +kernel
theorem dX8_mostLoved_15 : decode cX8_mostLoved 15 = .ok (.iload 5, 2) := by decide +kernel
theorem dX8_mostLoved_17 : decode cX8_mostLoved 17 = .ok (.aload_n 0, 1) := by decide +kernel
theorem dX8_mostLoved_18 : decode cX8_mostLoved 18 = .ok (.getfield 50, 3) := by decide +kernel
theorem dX8_mostLoved_21 : decode cX8_mostLoved 21 = .ok (.getfield 54, 3) := by decide +kernel
theorem dX8_mostLoved_24 : decode cX8_mostLoved 24 = .ok (.if_icmp .ge 49, 3) := by decide +kernel
theorem dX8_mostLoved_27 : decode cX8_mostLoved 27 = .ok (.iload_n 2, 1) := by decide +kernel
theorem dX8_mostLoved_28 : decode cX8_mostLoved 28 = .ok (.iload 5, 2) := by decide +kernel
theorem dX8_mostLoved_30 : decode cX8_mostLoved 30 = .ok (.ishr, 1) := by decide +kernel
theorem dX8_mostLoved_31 : decode cX8_mostLoved 31 = .ok (.iconst 1, 1) := by decide +kernel
theorem dX8_mostLoved_32 : decode cX8_mostLoved 32 = .ok (.iand, 1) := by decide +kernel
theorem dX8_mostLoved_33 : decode cX8_mostLoved 33 = .ok (.iconst 1, 1) := by decide +kernel
theorem dX8_mostLoved_34 : decode cX8_mostLoved 34 = .ok (.if_icmp .ne 33, 3) := by decide +kernel
theorem dX8_mostLoved_37 : decode cX8_mostLoved 37 = .ok (.aload_n 0, 1) := by decide +kernel
theorem dX8_mostLoved_38 : decode cX8_mostLoved 38 = .ok (.getfield 50, 3) := by decide +kernel
theorem dX8_mostLoved_41 : decode cX8_mostLoved 41 = .ok (.getfield 123, 3) := by decide +kernel
theorem dX8_mostLoved_44 : decode cX8_mostLoved 44 = .ok (.iload 5, 2) := by decide +kernel
theorem dX8_mostLoved_46 : decode cX8_mostLoved 46 = .ok (.iaload, 1) := by decide +kernel
theorem dX8_mostLoved_47 : decode cX8_mostLoved 47 = .ok (.iload 4, 2) := by decide +kernel
theorem dX8_mostLoved_49 : decode cX8_mostLoved 49 = .ok (.if_icmp .le 18, 3) := by decide +kernel
theorem dX8_mostLoved_52 : decode cX8_mostLoved 52 = .ok (.iload 5, 2) := by decide +kernel
theorem dX8_mostLoved_54 : decode cX8_mostLoved 54 = .ok (.istore_n 3, 1) := by decide +kernel
theorem dX8_mostLoved_55 : decode cX8_mostLoved 55 = .ok (.aload_n 0, 1) := by decide +kernel
theorem dX8_mostLoved_56 : decode cX8_mostLoved 56 = .ok (.getfield 50, 3) := by decide +kernel
theorem dX8_mostLoved_59 : decode cX8_mostLoved 59 = .ok (.getfield 123, 3) := by decide +kernel
theorem dX8_mostLoved_62 : decode cX8_mostLoved 62 = .ok (.iload 5, 2) := by decide +kernel
theorem dX8_mostLoved_64 : decode cX8_mostLoved 64 = .ok (.iaload, 1) := by decide +kernel
theorem dX8_mostLoved_65 : decode cX8_mostLoved 65 = .ok (.istore 4, 2) := by decide +kernel
theorem dX8_mostLoved_67 : decode cX8_mostLoved 67 = .ok (.iinc 5 1, 3) := by decide +kernel
theorem dX8_mostLoved_70 : decode cX8_mostLoved 70 = .ok (.goto (-55), 3) := by decide +kernel
theorem dX8_mostLoved_73 : decode cX8_mostLoved 73 = .ok (.iload_n 3, 1) := by decide +kernel
theorem dX8_mostLoved_74 : decode cX8_mostLoved 74 = .ok (.ireturn, 1) := by decide +kernel
theorem dX8_heldBy_0 : decode cX8_heldBy 0 = .ok (.iconst 0, 1) := by decide +kernel
theorem dX8_heldBy_1 : decode cX8_heldBy 1 = .ok (.istore_n 2, 1) := by decide +kernel
theorem dX8_heldBy_2 : decode cX8_heldBy 2 = .ok (.iconst 0, 1) := by decide +kernel
theorem dX8_heldBy_3 : decode cX8_heldBy 3 = .ok (.istore_n 3, 1) := by decide +kernel
theorem dX8_heldBy_4 : decode cX8_heldBy 4 = .ok (.iload_n 3, 1) := by decide +kernel
theorem dX8_heldBy_5 : decode cX8_heldBy 5 = .ok (.aload_n 0, 1) := by decide +kernel
theorem dX8_heldBy_6 : decode cX8_heldBy 6 = .ok (.getfield 50, 3) := by decide +kernel
theorem dX8_heldBy_9 : decode cX8_heldBy 9 = .ok (.getfield 54, 3) := by decide +kernel
theorem dX8_heldBy_12 : decode cX8_heldBy 12 = .ok (.if_icmp .ge 30, 3) := by decide +kernel
theorem dX8_heldBy_15 : decode cX8_heldBy 15 = .ok (.aload_n 0, 1) := by decide +kernel
theorem dX8_heldBy_16 : decode cX8_heldBy 16 = .ok (.iload_n 3, 1) := by decide +kernel
theorem dX8_heldBy_17 : decode cX8_heldBy 17 = .ok (.invokevirtual 85, 3) := by decide +kernel
theorem dX8_heldBy_20 : decode cX8_heldBy 20 = .ok (.ifCond .eq 16, 3) := by decide +kernel
theorem dX8_heldBy_23 : decode cX8_heldBy 23 = .ok (.aload_n 0, 1) := by decide +kernel
theorem dX8_heldBy_24 : decode cX8_heldBy 24 = .ok (.getfield 25, 3) := by decide +kernel
theorem dX8_heldBy_27 : decode cX8_heldBy 27 = .ok (.iload_n 3, 1) := by decide +kernel
theorem dX8_heldBy_28 : decode cX8_heldBy 28 = .ok (.iaload, 1) := by decide +kernel
theorem dX8_heldBy_29 : decode cX8_heldBy 29 = .ok (.iload_n 1, 1) := by decide +kernel
theorem dX8_heldBy_30 : decode cX8_heldBy 30 = .ok (.if_icmp .ne 6, 3) := by decide +kernel
theorem dX8_heldBy_33 : decode cX8_heldBy 33 = .ok (.iinc 2 1, 3) := by decide +kernel
theorem dX8_heldBy_36 : decode cX8_heldBy 36 = .ok (.iinc 3 1, 3) := by decide +kernel
theorem dX8_heldBy_39 : decode cX8_heldBy 39 = .ok (.goto (-35), 3) := by decide +kernel
theorem dX8_heldBy_42 : decode cX8_heldBy 42 = .ok (.iload_n 2, 1) := by decide +kernel
theorem dX8_heldBy_43 : decode cX8_heldBy 43 = .ok (.ireturn, 1) := by decide +kernel
theorem dX8_hurtOfAll_0 : decode cX8_hurtOfAll 0 = .ok (.iconst 0, 1) := by decide +kernel
theorem dX8_hurtOfAll_1 : decode cX8_hurtOfAll 1 = .ok (.istore_n 1, 1) := by decide +kernel
theorem dX8_hurtOfAll_2 : decode cX8_hurtOfAll 2 = .ok (.iconst 0, 1) := by decide +kernel
theorem dX8_hurtOfAll_3 : decode cX8_hurtOfAll 3 = .ok (.istore_n 2, 1) := by decide +kernel
theorem dX8_hurtOfAll_4 : decode cX8_hurtOfAll 4 = .ok (.iload_n 2, 1) := by decide +kernel
theorem dX8_hurtOfAll_5 : decode cX8_hurtOfAll 5 = .ok (.aload_n 0, 1) := by decide +kernel
theorem dX8_hurtOfAll_6 : decode cX8_hurtOfAll 6 = .ok (.getfield 50, 3) := by decide +kernel
theorem dX8_hurtOfAll_9 : decode cX8_hurtOfAll 9 = .ok (.getfield 54, 3) := by decide +kernel
theorem dX8_hurtOfAll_12 : decode cX8_hurtOfAll 12 = .ok (.if_icmp .ge 18, 3) := by decide +kernel
theorem dX8_hurtOfAll_15 : decode cX8_hurtOfAll 15 = .ok (.iload_n 1, 1) := by decide +kernel
theorem dX8_hurtOfAll_16 : decode cX8_hurtOfAll 16 = .ok (.aload_n 0, 1) := by decide +kernel
theorem dX8_hurtOfAll_17 : decode cX8_hurtOfAll 17 = .ok (.getfield 29, 3) := by decide +kernel
theorem dX8_hurtOfAll_20 : decode cX8_hurtOfAll 20 = .ok (.iload_n 2, 1) := by decide +kernel
theorem dX8_hurtOfAll_21 : decode cX8_hurtOfAll 21 = .ok (.iaload, 1) := by decide +kernel
theorem dX8_hurtOfAll_22 : decode cX8_hurtOfAll 22 = .ok (.iadd, 1) := by decide +kernel
theorem dX8_hurtOfAll_23 : decode cX8_hurtOfAll 23 = .ok (.istore_n 1, 1) := by decide +kernel
theorem dX8_hurtOfAll_24 : decode cX8_hurtOfAll 24 = .ok (.iinc 2 1, 3) := by decide +kernel
theorem dX8_hurtOfAll_27 : decode cX8_hurtOfAll 27 = .ok (.goto (-23), 3) := by decide +kernel
theorem dX8_hurtOfAll_30 : decode cX8_hurtOfAll 30 = .ok (.iload_n 1, 1) := by decide +kernel
theorem dX8_hurtOfAll_31 : decode cX8_hurtOfAll 31 = .ok (.ireturn, 1) := by decide +kernel
theorem dX8_angerOfBoth_0 : decode cX8_angerOfBoth 0 = .ok (.aload_n 0, 1) := by decide +kernel
theorem dX8_angerOfBoth_1 : decode cX8_angerOfBoth 1 = .ok (.getfield 38, 3) := by decide +kernel
theorem dX8_angerOfBoth_4 : decode cX8_angerOfBoth 4 = .ok (.iconst 0, 1) := by decide +kernel
theorem dX8_angerOfBoth_5 : decode cX8_angerOfBoth 5 = .ok (.iaload, 1) := by decide +kernel
theorem dX8_angerOfBoth_6 : decode cX8_angerOfBoth 6 = .ok (.aload_n 0, 1) := by decide +kernel
theorem dX8_angerOfBoth_7 : decode cX8_angerOfBoth 7 = .ok (.getfield 38, 3) := by decide +kernel
theorem dX8_angerOfBoth_10 : decode cX8_angerOfBoth 10 = .ok (.iconst 1, 1) := by decide +kernel
theorem dX8_angerOfBoth_11 : decode cX8_angerOfBoth 11 = .ok (.iaload, 1) := by decide +kernel
theorem dX8_angerOfBoth_12 : decode cX8_angerOfBoth 12 = .ok (.iadd, 1) := by decide +kernel
theorem dX8_angerOfBoth_13 : decode cX8_angerOfBoth 13 = .ok (.ireturn, 1) := by decide +kernel
theorem dX8_breachesOfBoth_0 : decode cX8_breachesOfBoth 0 = .ok (.aload_n 0, 1) := by decide +kernel
theorem dX8_breachesOfBoth_1 : decode cX8_breachesOfBoth 1 = .ok (.getfield 41, 3) := by decide +kernel
theorem dX8_breachesOfBoth_4 : decode cX8_breachesOfBoth 4 = .ok (.iconst 0, 1) := by decide +kernel
theorem dX8_breachesOfBoth_5 : decode cX8_breachesOfBoth 5 = .ok (.iaload, 1) := by decide +kernel
theorem dX8_breachesOfBoth_6 : decode cX8_breachesOfBoth 6 = .ok (.aload_n 0, 1) := by decide +kernel
theorem dX8_breachesOfBoth_7 : decode cX8_breachesOfBoth 7 = .ok (.getfield 41, 3) := by decide +kernel
theorem dX8_breachesOfBoth_10 : decode cX8_breachesOfBoth 10 = .ok (.iconst 1, 1) := by decide +kernel
theorem dX8_breachesOfBoth_11 : decode cX8_breachesOfBoth 11 = .ok (.iaload, 1) := by decide +kernel
theorem dX8_breachesOfBoth_12 : decode cX8_breachesOfBoth 12 = .ok (.iadd, 1) := by decide +kernel
theorem dX8_breachesOfBoth_13 : decode cX8_breachesOfBoth 13 = .ok (.ireturn, 1) := by decide +kernel
theorem dX8_sendHome_0 : decode cX8_sendHome 0 = .ok (.aload_n 0, 1) := by decide +kernel
theorem dX8_sendHome_1 : decode cX8_sendHome 1 = .ok (.dup, 1) := by decide +kernel
theorem dX8_sendHome_2 : decode cX8_sendHome 2 = .ok (.getfield 15, 3) := by decide +kernel
theorem dX8_sendHome_5 : decode cX8_sendHome 5 = .ok (.iconst 1, 1) := by decide +kernel
theorem dX8_sendHome_6 : decode cX8_sendHome 6 = .ok (.iload_n 1, 1) := by decide +kernel
theorem dX8_sendHome_7 : decode cX8_sendHome 7 = .ok (.ishl, 1) := by decide +kernel
theorem dX8_sendHome_8 : decode cX8_sendHome 8 = .ok (.iconst (-1), 1) := by decide +kernel
theorem dX8_sendHome_9 : decode cX8_sendHome 9 = .ok (.ixor, 1) := by decide +kernel
theorem dX8_sendHome_10 : decode cX8_sendHome 10 = .ok (.iand, 1) := by decide +kernel
theorem dX8_sendHome_11 : decode cX8_sendHome 11 = .ok (.putfield 15, 3) := by decide +kernel
theorem dX8_sendHome_14 : decode cX8_sendHome 14 = .ok (.return_, 1) := by decide +kernel
theorem dX8_hold_0 : decode cX8_hold 0 = .ok (.aload_n 0, 1) := by decide +kernel
theorem dX8_hold_1 : decode cX8_hold 1 = .ok (.dup, 1) := by decide +kernel
theorem dX8_hold_2 : decode cX8_hold 2 = .ok (.getfield 15, 3) := by decide +kernel
theorem dX8_hold_5 : decode cX8_hold 5 = .ok (.iconst 1, 1) := by decide +kernel
theorem dX8_hold_6 : decode cX8_hold 6 = .ok (.iload_n 1, 1) := by decide +kernel
theorem dX8_hold_7 : decode cX8_hold 7 = .ok (.ishl, 1) := by decide +kernel
theorem dX8_hold_8 : decode cX8_hold 8 = .ok (.ior, 1) := by decide +kernel
theorem dX8_hold_9 : decode cX8_hold 9 = .ok (.putfield 15, 3) := by decide +kernel
theorem dX8_hold_12 : decode cX8_hold 12 = .ok (.return_, 1) := by decide +kernel
theorem dX8_careForAll_0 : decode cX8_careForAll 0 = .ok (.iconst 0, 1) := by decide +kernel
theorem dX8_careForAll_1 : decode cX8_careForAll 1 = .ok (.istore_n 2, 1) := by decide +kernel
theorem dX8_careForAll_2 : decode cX8_careForAll 2 = .ok (.iload_n 2, 1) := by decide +kernel
theorem dX8_careForAll_3 : decode cX8_careForAll 3 = .ok (.bipush 6, 2) := by decide +kernel
theorem dX8_careForAll_5 : decode cX8_careForAll 5 = .ok (.if_icmp .ge 16, 3) := by decide +kernel
theorem dX8_careForAll_8 : decode cX8_careForAll 8 = .ok (.aload_n 0, 1) := by decide +kernel
theorem dX8_careForAll_9 : decode cX8_careForAll 9 = .ok (.getfield 35, 3) := by decide +kernel
theorem dX8_careForAll_12 : decode cX8_careForAll 12 = .ok (.iload_n 2, 1) := by decide +kernel
theorem dX8_careForAll_13 : decode cX8_careForAll 13 = .ok (.iload_n 1, 1) := by decide +kernel
theorem dX8_careForAll_14 : decode cX8_careForAll 14 = .ok (.iastore, 1) := by decide +kernel
theorem dX8_careForAll_15 : decode cX8_careForAll 15 = .ok (.iinc 2 1, 3) := by decide +kernel
theorem dX8_careForAll_18 : decode cX8_careForAll 18 = .ok (.goto (-16), 3) := by decide +kernel
theorem dX8_careForAll_21 : decode cX8_careForAll 21 = .ok (.return_, 1) := by decide +kernel
theorem dX9_init_0 : decode cX9_init 0 = .ok (.aload_n 0, 1) := by decide +kernel
theorem dX9_init_1 : decode cX9_init 1 = .ok (.invokespecial 5, 3) := by decide +kernel
theorem dX9_init_4 : decode cX9_init 4 = .ok (.aload_n 0, 1) := by decide +kernel
theorem dX9_init_5 : decode cX9_init 5 = .ok (.new 11, 3) := by decide +kernel
theorem dX9_init_8 : decode cX9_init 8 = .ok (.dup, 1) := by decide +kernel
theorem dX9_init_9 : decode cX9_init 9 = .ok (.invokespecial 13, 3) := by decide +kernel
theorem dX9_init_12 : decode cX9_init 12 = .ok (.putfield 14, 3) := by decide +kernel
theorem dX9_init_15 : decode cX9_init 15 = .ok (.aload_n 0, 1) := by decide +kernel
theorem dX9_init_16 : decode cX9_init 16 = .ok (.new 18, 3) := by decide +kernel
theorem dX9_init_19 : decode cX9_init 19 = .ok (.dup, 1) := by decide +kernel
theorem dX9_init_20 : decode cX9_init 20 = .ok (.invokespecial 20, 3) := by decide +kernel
theorem dX9_init_23 : decode cX9_init 23 = .ok (.putfield 21, 3) := by decide +kernel
theorem dX9_init_26 : decode cX9_init 26 = .ok (.aload_n 0, 1) := by decide +kernel
theorem dX9_init_27 : decode cX9_init 27 = .ok (.new 25, 3) := by decide +kernel
theorem dX9_init_30 : decode cX9_init 30 = .ok (.dup, 1) := by decide +kernel
theorem dX9_init_31 : decode cX9_init 31 = .ok (.invokespecial 27, 3) := by decide +kernel
theorem dX9_init_34 : decode cX9_init 34 = .ok (.putfield 28, 3) := by decide +kernel
theorem dX9_init_37 : decode cX9_init 37 = .ok (.aload_n 0, 1) := by decide +kernel
theorem dX9_init_38 : decode cX9_init 38 = .ok (.new 32, 3) := by decide +kernel
theorem dX9_init_41 : decode cX9_init 41 = .ok (.dup, 1) := by decide +kernel
theorem dX9_init_42 : decode cX9_init 42 = .ok (.aload_n 0, 1) := by decide +kernel
theorem dX9_init_43 : decode cX9_init 43 = .ok (.getfield 28, 3) := by decide +kernel
theorem dX9_init_46 : decode cX9_init 46 = .ok (.invokespecial 34, 3) := by decide +kernel
theorem dX9_init_49 : decode cX9_init 49 = .ok (.putfield 37, 3) := by decide +kernel
theorem dX9_init_52 : decode cX9_init 52 = .ok (.aload_n 0, 1) := by decide +kernel
theorem dX9_init_53 : decode cX9_init 53 = .ok (.new 32, 3) := by decide +kernel
theorem dX9_init_56 : decode cX9_init 56 = .ok (.dup, 1) := by decide +kernel
theorem dX9_init_57 : decode cX9_init 57 = .ok (.aload_n 0, 1) := by decide +kernel
theorem dX9_init_58 : decode cX9_init 58 = .ok (.getfield 28, 3) := by decide +kernel
theorem dX9_init_61 : decode cX9_init 61 = .ok (.invokespecial 34, 3) := by decide +kernel
theorem dX9_init_64 : decode cX9_init 64 = .ok (.putfield 41, 3) := by decide +kernel
theorem dX9_init_67 : decode cX9_init 67 = .ok (.aload_n 0, 1) := by decide +kernel
theorem dX9_init_68 : decode cX9_init 68 = .ok (.new 32, 3) := by decide +kernel
theorem dX9_init_71 : decode cX9_init 71 = .ok (.dup, 1) := by decide +kernel
theorem dX9_init_72 : decode cX9_init 72 = .ok (.aload_n 0, 1) := by decide +kernel
theorem dX9_init_73 : decode cX9_init 73 = .ok (.getfield 28, 3) := by decide +kernel
theorem dX9_init_76 : decode cX9_init 76 = .ok (.invokespecial 34, 3) := by decide +kernel
theorem dX9_init_79 : decode cX9_init 79 = .ok (.putfield 44, 3) := by decide +kernel
theorem dX9_init_82 : decode cX9_init 82 = .ok (.aload_n 0, 1) := by decide +kernel
theorem dX9_init_83 : decode cX9_init 83 = .ok (.new 47, 3) := by decide +kernel
theorem dX9_init_86 : decode cX9_init 86 = .ok (.dup, 1) := by decide +kernel
theorem dX9_init_87 : decode cX9_init 87 = .ok (.invokespecial 49, 3) := by decide +kernel
theorem dX9_init_90 : decode cX9_init 90 = .ok (.putfield 50, 3) := by decide +kernel
theorem dX9_init_93 : decode cX9_init 93 = .ok (.aload_n 0, 1) := by decide +kernel
theorem dX9_init_94 : decode cX9_init 94 = .ok (.new 54, 3) := by decide +kernel
theorem dX9_init_97 : decode cX9_init 97 = .ok (.dup, 1) := by decide +kernel
theorem dX9_init_98 : decode cX9_init 98 = .ok (.invokespecial 56, 3) := by decide +kernel
theorem dX9_init_101 : decode cX9_init 101 = .ok (.putfield 57, 3) := by decide +kernel
theorem dX9_init_104 : decode cX9_init 104 = .ok (.aload_n 0, 1) := by decide +kernel
theorem dX9_init_105 : decode cX9_init 105 = .ok (.new 61, 3) := by decide +kernel
theorem dX9_init_108 : decode cX9_init 108 = .ok (.dup, 1) := by decide +kernel
theorem dX9_init_109 : decode cX9_init 109 = .ok (.invokespecial 63, 3) := by decide +kernel
theorem dX9_init_112 : decode cX9_init 112 = .ok (.putfield 64, 3) := by decide +kernel
theorem dX9_init_115 : decode cX9_init 115 = .ok (.aload_n 0, 1) := by decide +kernel
theorem dX9_init_116 : decode cX9_init 116 = .ok (.iconst 0, 1) := by decide +kernel
theorem dX9_init_117 : decode cX9_init 117 = .ok (.putfield 68, 3) := by decide +kernel
theorem dX9_init_120 : decode cX9_init 120 = .ok (.aload_n 0, 1) := by decide +kernel
theorem dX9_init_121 : decode cX9_init 121 = .ok (.getfield 37, 3) := by decide +kernel
theorem dX9_init_124 : decode cX9_init 124 = .ok (.invokevirtual 72, 3) := by decide +kernel
theorem dX9_init_127 : decode cX9_init 127 = .ok (.return_, 1) := by decide +kernel
theorem dX9_feed_0 : decode cX9_feed 0 = .ok (.aload_n 0, 1) := by decide +kernel
theorem dX9_feed_1 : decode cX9_feed 1 = .ok (.getfield 14, 3) := by decide +kernel
theorem dX9_feed_4 : decode cX9_feed 4 = .ok (.getfield 75, 3) := by decide +kernel
theorem dX9_feed_7 : decode cX9_feed 7 = .ok (.bipush 20, 2) := by decide +kernel
theorem dX9_feed_9 : decode cX9_feed 9 = .ok (.iadd, 1) := by decide +kernel
theorem dX9_feed_10 : decode cX9_feed 10 = .ok (.sipush 700, 3) := by decide +kernel
theorem dX9_feed_13 : decode cX9_feed 13 = .ok (.if_icmp .le 5, 3) := by decide +kernel
theorem dX9_feed_16 : decode cX9_feed 16 = .ok (.iconst (-1), 1) := by decide +kernel
theorem dX9_feed_17 : decode cX9_feed 17 = .ok (.ireturn, 1) := by decide +kernel
theorem dX9_feed_18 : decode cX9_feed 18 = .ok (.aload_n 0, 1) := by decide +kernel
theorem dX9_feed_19 : decode cX9_feed 19 = .ok (.getfield 14, 3) := by decide +kernel
theorem dX9_feed_22 : decode cX9_feed 22 = .ok (.iload_n 1, 1) := by decide +kernel
theorem dX9_feed_23 : decode cX9_feed 23 = .ok (.invokevirtual 79, 3) := by decide +kernel
theorem dX9_feed_26 : decode cX9_feed 26 = .ok (.aload_n 0, 1) := by decide +kernel
theorem dX9_feed_27 : decode cX9_feed 27 = .ok (.getfield 14, 3) := by decide +kernel
theorem dX9_feed_30 : decode cX9_feed 30 = .ok (.iload_n 2, 1) := by decide +kernel
theorem dX9_feed_31 : decode cX9_feed 31 = .ok (.invokevirtual 79, 3) := by decide +kernel
theorem dX9_feed_34 : decode cX9_feed 34 = .ok (.aload_n 0, 1) := by decide +kernel
theorem dX9_feed_35 : decode cX9_feed 35 = .ok (.getfield 14, 3) := by decide +kernel
theorem dX9_feed_38 : decode cX9_feed 38 = .ok (.iload_n 3, 1) := by decide +kernel
theorem dX9_feed_39 : decode cX9_feed 39 = .ok (.invokevirtual 79, 3) := by decide +kernel
theorem dX9_feed_42 : decode cX9_feed 42 = .ok (.aload_n 0, 1) := by decide +kernel
theorem dX9_feed_43 : decode cX9_feed 43 = .ok (.getfield 14, 3) := by decide +kernel
theorem dX9_feed_46 : decode cX9_feed 46 = .ok (.iload 4, 2) := by decide +kernel
theorem dX9_feed_48 : decode cX9_feed 48 = .ok (.invokevirtual 79, 3) := by decide +kernel
theorem dX9_feed_51 : decode cX9_feed 51 = .ok (.aload_n 0, 1) := by decide +kernel
theorem dX9_feed_52 : decode cX9_feed 52 = .ok (.getfield 14, 3) := by decide +kernel
theorem dX9_feed_55 : decode cX9_feed 55 = .ok (.iload 5, 2) := by decide +kernel
theorem dX9_feed_57 : decode cX9_feed 57 = .ok (.invokevirtual 79, 3) := by decide +kernel
theorem dX9_feed_60 : decode cX9_feed 60 = .ok (.aload_n 0, 1) := by decide +kernel
theorem dX9_feed_61 : decode cX9_feed 61 = .ok (.getfield 14, 3) := by decide +kernel
theorem dX9_feed_64 : decode cX9_feed 64 = .ok (.getfield 75, 3) := by decide +kernel
theorem dX9_feed_67 : decode cX9_feed 67 = .ok (.ireturn, 1) := by decide +kernel
theorem dX9_text_0 : decode cX9_text 0 = .ok (.iload_n 1, 1) := by decide +kernel
theorem dX9_text_1 : decode cX9_text 1 = .ok (.ifCond .lt 14, 3) := by decide +kernel
theorem dX9_text_4 : decode cX9_text 4 = .ok (.iload_n 1, 1) := by decide +kernel
theorem dX9_text_5 : decode cX9_text 5 = .ok (.aload_n 0, 1) := by decide +kernel
theorem dX9_text_6 : decode cX9_text 6 = .ok (.getfield 14, 3) := by decide +kernel
theorem dX9_text_9 : decode cX9_text 9 = .ok (.getfield 75, 3) := by decide +kernel
theorem dX9_text_12 : decode cX9_text 12 = .ok (.if_icmp .le 6, 3) := by decide +kernel
theorem dX9_text_15 : decode cX9_text 15 = .ok (.bipush (-2), 2) := by decide +kernel
theorem dX9_text_17 : decode cX9_text 17 = .ok (.ireturn, 1) := by decide +kernel
theorem dX9_text_18 : decode cX9_text 18 = .ok (.aload_n 0, 1) := by decide +kernel
theorem dX9_text_19 : decode cX9_text 19 = .ok (.getfield 21, 3) := by decide +kernel
theorem dX9_text_22 : decode cX9_text 22 = .ok (.getfield 83, 3) := by decide +kernel
theorem dX9_text_25 : decode cX9_text 25 = .ok (.aload_n 0, 1) := by decide +kernel
theorem dX9_text_26 : decode cX9_text 26 = .ok (.getfield 14, 3) := by decide +kernel
theorem dX9_text_29 : decode cX9_text 29 = .ok (.getfield 87, 3) := by decide +kernel
theorem dX9_text_32 : decode cX9_text 32 = .ok (.iload_n 1, 1) := by decide +kernel
theorem dX9_text_33 : decode cX9_text 33 = .ok (.invokevirtual 91, 3) := by decide +kernel
theorem dX9_text_36 : decode cX9_text 36 = .ok (.aload_n 0, 1) := by decide +kernel
theorem dX9_text_37 : decode cX9_text 37 = .ok (.getfield 14, 3) := by decide +kernel
theorem dX9_text_40 : decode cX9_text 40 = .ok (.iconst 0, 1) := by decide +kernel
theorem dX9_text_41 : decode cX9_text 41 = .ok (.putfield 75, 3) := by decide +kernel
theorem dX9_text_44 : decode cX9_text 44 = .ok (.aload_n 0, 1) := by decide +kernel
theorem dX9_text_45 : decode cX9_text 45 = .ok (.getfield 21, 3) := by decide +kernel
theorem dX9_text_48 : decode cX9_text 48 = .ok (.invokevirtual 97, 3) := by decide +kernel
theorem dX9_text_51 : decode cX9_text 51 = .ok (.istore_n 2, 1) := by decide +kernel
theorem dX9_text_52 : decode cX9_text 52 = .ok (.iload_n 2, 1) := by decide +kernel
theorem dX9_text_53 : decode cX9_text 53 = .ok (.iconst (-1), 1) := by decide +kernel
theorem dX9_text_54 : decode cX9_text 54 = .ok (.if_icmp .ne 5, 3) := by decide +kernel
theorem dX9_text_57 : decode cX9_text 57 = .ok (.iconst (-1), 1) := by decide +kernel
theorem dX9_text_58 : decode cX9_text 58 = .ok (.ireturn, 1) := by decide +kernel
theorem dX9_text_59 : decode cX9_text 59 = .ok (.aload_n 0, 1) := by decide +kernel
theorem dX9_text_60 : decode cX9_text 60 = .ok (.getfield 28, 3) := by decide +kernel
theorem dX9_text_63 : decode cX9_text 63 = .ok (.aload_n 0, 1) := by decide +kernel
theorem dX9_text_64 : decode cX9_text 64 = .ok (.getfield 21, 3) := by decide +kernel
theorem dX9_text_67 : decode cX9_text 67 = .ok (.getfield 101, 3) := by decide +kernel
theorem dX9_text_70 : decode cX9_text 70 = .ok (.invokevirtual 104, 3) := by decide +kernel
theorem dX9_text_73 : decode cX9_text 73 = .ok (.aload_n 0, 1) := by decide +kernel
theorem dX9_text_74 : decode cX9_text 74 = .ok (.getfield 37, 3) := by decide +kernel
theorem dX9_text_77 : decode cX9_text 77 = .ok (.invokevirtual 72, 3) := by decide +kernel
theorem dX9_text_80 : decode cX9_text 80 = .ok (.aload_n 0, 1) := by decide +kernel
theorem dX9_text_81 : decode cX9_text 81 = .ok (.getfield 50, 3) := by decide +kernel
theorem dX9_text_84 : decode cX9_text 84 = .ok (.invokevirtual 107, 3) := by decide +kernel
theorem dX9_text_87 : decode cX9_text 87 = .ok (.aload_n 0, 1) := by decide +kernel
theorem dX9_text_88 : decode cX9_text 88 = .ok (.iconst 0, 1) := by decide +kernel
theorem dX9_text_89 : decode cX9_text 89 = .ok (.putfield 68, 3) := by decide +kernel
theorem dX9_text_92 : decode cX9_text 92 = .ok (.aload_n 0, 1) := by decide +kernel
theorem dX9_text_93 : decode cX9_text 93 = .ok (.invokevirtual 110, 3) := by decide +kernel
theorem dX9_text_96 : decode cX9_text 96 = .ok (.iload_n 2, 1) := by decide +kernel
theorem dX9_text_97 : decode cX9_text 97 = .ok (.ireturn, 1) := by decide +kernel
theorem dX9_fault_0 : decode cX9_fault 0 = .ok (.iload_n 1, 1) := by decide +kernel
theorem dX9_fault_1 : decode cX9_fault 1 = .ok (.lookupswitch 43 #[(0, 27), (1, 35)], 27) := by decide +kernel
theorem dX9_fault_28 : decode cX9_fault 28 = .ok (.aload_n 0, 1) := by decide +kernel
theorem dX9_fault_29 : decode cX9_fault 29 = .ok (.getfield 21, 3) := by decide +kernel
theorem dX9_fault_32 : decode cX9_fault 32 = .ok (.getfield 113, 3) := by decide +kernel
theorem dX9_fault_35 : decode cX9_fault 35 = .ok (.ireturn, 1) := by decide +kernel
theorem dX9_fault_36 : decode cX9_fault 36 = .ok (.aload_n 0, 1) := by decide +kernel
theorem dX9_fault_37 : decode cX9_fault 37 = .ok (.getfield 21, 3) := by decide +kernel
theorem dX9_fault_40 : decode cX9_fault 40 = .ok (.getfield 116, 3) := by decide +kernel
theorem dX9_fault_43 : decode cX9_fault 43 = .ok (.ireturn, 1) := by decide +kernel
theorem dX9_fault_44 : decode cX9_fault 44 = .ok (.iconst (-1), 1) := by decide +kernel
theorem dX9_fault_45 : decode cX9_fault 45 = .ok (.ireturn, 1) := by decide +kernel
theorem dX9_named_0 : decode cX9_named 0 = .ok (.iload_n 1, 1) := by decide +kernel
theorem dX9_named_1 : decode cX9_named 1 = .ok (.lookupswitch 65 #[(0, 27), (1, 46)], 27) := by decide +kernel
theorem dX9_named_28 : decode cX9_named 28 = .ok (.iload_n 2, 1) := by decide +kernel
theorem dX9_named_29 : decode cX9_named 29 = .ok (.aload_n 0, 1) := by decide +kernel
theorem dX9_named_30 : decode cX9_named 30 = .ok (.getfield 28, 3) := by decide +kernel
theorem dX9_named_33 : decode cX9_named 33 = .ok (.getfield 119, 3) := by decide +kernel
theorem dX9_named_36 : decode cX9_named 36 = .ok (.aload_n 0, 1) := by decide +kernel
theorem dX9_named_37 : decode cX9_named 37 = .ok (.getfield 28, 3) := by decide +kernel
theorem dX9_named_40 : decode cX9_named 40 = .ok (.getfield 122, 3) := by decide +kernel
theorem dX9_named_43 : decode cX9_named 43 = .ok (.invokestatic 125, 3) := by decide +kernel
theorem dX9_named_46 : decode cX9_named 46 = .ok (.ireturn, 1) := by decide +kernel
theorem dX9_named_47 : decode cX9_named 47 = .ok (.iload_n 2, 1) := by decide +kernel
theorem dX9_named_48 : decode cX9_named 48 = .ok (.aload_n 0, 1) := by decide +kernel
theorem dX9_named_49 : decode cX9_named 49 = .ok (.getfield 28, 3) := by decide +kernel
theorem dX9_named_52 : decode cX9_named 52 = .ok (.getfield 129, 3) := by decide +kernel
theorem dX9_named_55 : decode cX9_named 55 = .ok (.aload_n 0, 1) := by decide +kernel
theorem dX9_named_56 : decode cX9_named 56 = .ok (.getfield 28, 3) := by decide +kernel
theorem dX9_named_59 : decode cX9_named 59 = .ok (.getfield 132, 3) := by decide +kernel
theorem dX9_named_62 : decode cX9_named 62 = .ok (.invokestatic 125, 3) := by decide +kernel
theorem dX9_named_65 : decode cX9_named 65 = .ok (.ireturn, 1) := by decide +kernel
theorem dX9_named_66 : decode cX9_named 66 = .ok (.iconst (-1), 1) := by decide +kernel
theorem dX9_named_67 : decode cX9_named 67 = .ok (.ireturn, 1) := by decide +kernel
theorem dX9_doll_0 : decode cX9_doll 0 = .ok (.aload_n 0, 1) := by decide +kernel
theorem dX9_doll_1 : decode cX9_doll 1 = .ok (.iload_n 1, 1) := by decide +kernel
theorem dX9_doll_2 : decode cX9_doll 2 = .ok (.invokevirtual 135, 3) := by decide +kernel
theorem dX9_doll_5 : decode cX9_doll 5 = .ok (.ifCond .ne 13, 3) := by decide +kernel
theorem dX9_doll_8 : decode cX9_doll 8 = .ok (.new 139, 3) := by decide +kernel
theorem dX9_doll_11 : decode cX9_doll 11 = .ok (.dup, 1) := by decide +kernel
theorem dX9_doll_12 : decode cX9_doll 12 = .ok (.ldc 141, 2) := by decide +kernel
theorem dX9_doll_14 : decode cX9_doll 14 = .ok (.invokespecial 143, 3) := by decide +kernel
theorem dX9_doll_17 : decode cX9_doll 17 = .ok (.athrow, 1) := by decide +kernel
theorem dX9_doll_18 : decode cX9_doll 18 = .ok (.iload_n 2, 1) := by decide +kernel
theorem dX9_doll_19 : decode cX9_doll 19 = .ok (.tableswitch 118 0 6 #[41, 51, 61, 71, 81, 91, 101], 41) := by decide +kernel
theorem dX9_doll_60 : decode cX9_doll 60 = .ok (.aload_n 0, 1) := by decide +kernel
theorem dX9_doll_61 : decode cX9_doll 61 = .ok (.getfield 37, 3) := by decide +kernel
theorem dX9_doll_64 : decode cX9_doll 64 = .ok (.getfield 146, 3) := by decide +kernel
theorem dX9_doll_67 : decode cX9_doll 67 = .ok (.iload_n 1, 1) := by decide +kernel
theorem dX9_doll_68 : decode cX9_doll 68 = .ok (.iaload, 1) := by decide +kernel
theorem dX9_doll_69 : decode cX9_doll 69 = .ok (.ireturn, 1) := by decide +kernel
theorem dX9_doll_70 : decode cX9_doll 70 = .ok (.aload_n 0, 1) := by decide +kernel
theorem dX9_doll_71 : decode cX9_doll 71 = .ok (.getfield 28, 3) := by decide +kernel
theorem dX9_doll_74 : decode cX9_doll 74 = .ok (.getfield 149, 3) := by decide +kernel
theorem dX9_doll_77 : decode cX9_doll 77 = .ok (.iload_n 1, 1) := by decide +kernel
theorem dX9_doll_78 : decode cX9_doll 78 = .ok (.iaload, 1) := by decide +kernel
theorem dX9_doll_79 : decode cX9_doll 79 = .ok (.ireturn, 1) := by decide +kernel
theorem dX9_doll_80 : decode cX9_doll 80 = .ok (.aload_n 0, 1) := by decide +kernel
theorem dX9_doll_81 : decode cX9_doll 81 = .ok (.getfield 28, 3) := by decide +kernel
theorem dX9_doll_84 : decode cX9_doll 84 = .ok (.getfield 152, 3) := by decide +kernel
theorem dX9_doll_87 : decode cX9_doll 87 = .ok (.iload_n 1, 1) := by decide +kernel
theorem dX9_doll_88 : decode cX9_doll 88 = .ok (.iaload, 1) := by decide +kernel
theorem dX9_doll_89 : decode cX9_doll 89 = .ok (.ireturn, 1) := by decide +kernel
theorem dX9_doll_90 : decode cX9_doll 90 = .ok (.aload_n 0, 1) := by decide +kernel
theorem dX9_doll_91 : decode cX9_doll 91 = .ok (.getfield 28, 3) := by decide +kernel
theorem dX9_doll_94 : decode cX9_doll 94 = .ok (.getfield 155, 3) := by decide +kernel
theorem dX9_doll_97 : decode cX9_doll 97 = .ok (.iload_n 1, 1) := by decide +kernel
theorem dX9_doll_98 : decode cX9_doll 98 = .ok (.iaload, 1) := by decide +kernel
theorem dX9_doll_99 : decode cX9_doll 99 = .ok (.ireturn, 1) := by decide +kernel
theorem dX9_doll_100 : decode cX9_doll 100 = .ok (.aload_n 0, 1) := by decide +kernel
theorem dX9_doll_101 : decode cX9_doll 101 = .ok (.getfield 37, 3) := by decide +kernel
theorem dX9_doll_104 : decode cX9_doll 104 = .ok (.getfield 158, 3) := by decide +kernel
theorem dX9_doll_107 : decode cX9_doll 107 = .ok (.iload_n 1, 1) := by decide +kernel
theorem dX9_doll_108 : decode cX9_doll 108 = .ok (.iaload, 1) := by decide +kernel
theorem dX9_doll_109 : decode cX9_doll 109 = .ok (.ireturn, 1) := by decide +kernel
theorem dX9_doll_110 : decode cX9_doll 110 = .ok (.aload_n 0, 1) := by decide +kernel
theorem dX9_doll_111 : decode cX9_doll 111 = .ok (.getfield 37, 3) := by decide +kernel
theorem dX9_doll_114 : decode cX9_doll 114 = .ok (.getfield 161, 3) := by decide +kernel
theorem dX9_doll_117 : decode cX9_doll 117 = .ok (.iload_n 1, 1) := by decide +kernel
theorem dX9_doll_118 : decode cX9_doll 118 = .ok (.iaload, 1) := by decide +kernel
theorem dX9_doll_119 : decode cX9_doll 119 = .ok (.ireturn, 1) := by decide +kernel
theorem dX9_doll_120 : decode cX9_doll 120 = .ok (.aload_n 0, 1) := by decide +kernel
theorem dX9_doll_121 : decode cX9_doll 121 = .ok (.getfield 37, 3) := by decide +kernel
theorem dX9_doll_124 : decode cX9_doll 124 = .ok (.iload_n 1, 1) := by decide +kernel
theorem dX9_doll_125 : decode cX9_doll 125 = .ok (.invokevirtual 164, 3) := by decide +kernel
theorem dX9_doll_128 : decode cX9_doll 128 = .ok (.ifCond .eq 7, 3) := by decide +kernel
theorem dX9_doll_131 : decode cX9_doll 131 = .ok (.iconst 1, 1) := by decide +kernel
theorem dX9_doll_132 : decode cX9_doll 132 = .ok (.goto 4, 3) := by decide +kernel
theorem dX9_doll_135 : decode cX9_doll 135 = .ok (.iconst 0, 1) := by decide +kernel
theorem dX9_doll_136 : decode cX9_doll 136 = .ok (.ireturn, 1) := by decide +kernel
theorem dX9_doll_137 : decode cX9_doll 137 = .ok (.new 167, 3) := by decide +kernel
theorem dX9_doll_140 : decode cX9_doll 140 = .ok (.dup, 1) := by decide +kernel
theorem dX9_doll_141 : decode cX9_doll 141 = .ok (.ldc 169, 2) := by decide +kernel
theorem dX9_doll_143 : decode cX9_doll 143 = .ok (.invokespecial 171, 3) := by decide +kernel
theorem dX9_doll_146 : decode cX9_doll 146 = .ok (.athrow, 1) := by decide +kernel
theorem dX9_nurse_0 : decode cX9_nurse 0 = .ok (.aload_n 0, 1) := by decide +kernel
theorem dX9_nurse_1 : decode cX9_nurse 1 = .ok (.iload_n 1, 1) := by decide +kernel
theorem dX9_nurse_2 : decode cX9_nurse 2 = .ok (.invokevirtual 172, 3) := by decide +kernel
theorem dX9_nurse_5 : decode cX9_nurse 5 = .ok (.ifCond .ne 5, 3) := by decide +kernel
theorem dX9_nurse_8 : decode cX9_nurse 8 = .ok (.iconst (-1), 1) := by decide +kernel
theorem dX9_nurse_9 : decode cX9_nurse 9 = .ok (.ireturn, 1) := by decide +kernel
theorem dX9_nurse_10 : decode cX9_nurse 10 = .ok (.iload_n 2, 1) := by decide +kernel
theorem dX9_nurse_11 : decode cX9_nurse 11 = .ok (.tableswitch 54 0 2 #[25, 35, 45], 25) := by decide +kernel
theorem dX9_nurse_36 : decode cX9_nurse 36 = .ok (.aload_n 0, 1) := by decide +kernel
theorem dX9_nurse_37 : decode cX9_nurse 37 = .ok (.getfield 28, 3) := by decide +kernel
theorem dX9_nurse_40 : decode cX9_nurse 40 = .ok (.getfield 175, 3) := by decide +kernel
theorem dX9_nurse_43 : decode cX9_nurse 43 = .ok (.iload_n 1, 1) := by decide +kernel
theorem dX9_nurse_44 : decode cX9_nurse 44 = .ok (.iaload, 1) := by decide +kernel
theorem dX9_nurse_45 : decode cX9_nurse 45 = .ok (.ireturn, 1) := by decide +kernel
theorem dX9_nurse_46 : decode cX9_nurse 46 = .ok (.aload_n 0, 1) := by decide +kernel
theorem dX9_nurse_47 : decode cX9_nurse 47 = .ok (.getfield 28, 3) := by decide +kernel
theorem dX9_nurse_50 : decode cX9_nurse 50 = .ok (.getfield 178, 3) := by decide +kernel
theorem dX9_nurse_53 : decode cX9_nurse 53 = .ok (.iload_n 1, 1) := by decide +kernel
theorem dX9_nurse_54 : decode cX9_nurse 54 = .ok (.iaload, 1) := by decide +kernel
theorem dX9_nurse_55 : decode cX9_nurse 55 = .ok (.ireturn, 1) := by decide +kernel
theorem dX9_nurse_56 : decode cX9_nurse 56 = .ok (.aload_n 0, 1) := by decide +kernel
theorem dX9_nurse_57 : decode cX9_nurse 57 = .ok (.getfield 37, 3) := by decide +kernel
theorem dX9_nurse_60 : decode cX9_nurse 60 = .ok (.iload_n 1, 1) := by decide +kernel
theorem dX9_nurse_61 : decode cX9_nurse 61 = .ok (.invokevirtual 181, 3) := by decide +kernel
theorem dX9_nurse_64 : decode cX9_nurse 64 = .ok (.ireturn, 1) := by decide +kernel
theorem dX9_nurse_65 : decode cX9_nurse 65 = .ok (.iconst (-1), 1) := by decide +kernel
theorem dX9_nurse_66 : decode cX9_nurse 66 = .ok (.ireturn, 1) := by decide +kernel
theorem dX9_city_0 : decode cX9_city 0 = .ok (.iload_n 1, 1) := by decide +kernel
theorem dX9_city_1 : decode cX9_city 1 = .ok (.invokestatic 185, 3) := by decide +kernel
theorem dX9_city_4 : decode cX9_city 4 = .ok (.ifCond .ne 5, 3) := by decide +kernel
theorem dX9_city_7 : decode cX9_city 7 = .ok (.iconst (-1), 1) := by decide +kernel
theorem dX9_city_8 : decode cX9_city 8 = .ok (.ireturn, 1) := by decide +kernel
theorem dX9_city_9 : decode cX9_city 9 = .ok (.iload_n 2, 1) := by decide +kernel
theorem dX9_city_10 : decode cX9_city 10 = .ok (.tableswitch 95 0 4 #[34, 44, 54, 63, 72], 34) := by decide +kernel
theorem dX9_city_44 : decode cX9_city 44 = .ok (.aload_n 0, 1) := by decide +kernel
theorem dX9_city_45 : decode cX9_city 45 = .ok (.getfield 37, 3) := by decide +kernel
theorem dX9_city_48 : decode cX9_city 48 = .ok (.getfield 188, 3) := by decide +kernel
theorem dX9_city_51 : decode cX9_city 51 = .ok (.iload_n 1, 1) := by decide +kernel
theorem dX9_city_52 : decode cX9_city 52 = .ok (.iaload, 1) := by decide +kernel
theorem dX9_city_53 : decode cX9_city 53 = .ok (.ireturn, 1) := by decide +kernel
theorem dX9_city_54 : decode cX9_city 54 = .ok (.aload_n 0, 1) := by decide +kernel
theorem dX9_city_55 : decode cX9_city 55 = .ok (.getfield 37, 3) := by decide +kernel
theorem dX9_city_58 : decode cX9_city 58 = .ok (.getfield 191, 3) := by decide +kernel
theorem dX9_city_61 : decode cX9_city 61 = .ok (.iload_n 1, 1) := by decide +kernel
theorem dX9_city_62 : decode cX9_city 62 = .ok (.iaload, 1) := by decide +kernel
theorem dX9_city_63 : decode cX9_city 63 = .ok (.ireturn, 1) := by decide +kernel
theorem dX9_city_64 : decode cX9_city 64 = .ok (.aload_n 0, 1) := by decide +kernel
theorem dX9_city_65 : decode cX9_city 65 = .ok (.getfield 37, 3) := by decide +kernel
theorem dX9_city_68 : decode cX9_city 68 = .ok (.iload_n 1, 1) := by decide +kernel
theorem dX9_city_69 : decode cX9_city 69 = .ok (.invokevirtual 194, 3) := by decide +kernel
theorem dX9_city_72 : decode cX9_city 72 = .ok (.ireturn, 1) := by decide +kernel
theorem dX9_city_73 : decode cX9_city 73 = .ok (.aload_n 0, 1) := by decide +kernel
theorem dX9_city_74 : decode cX9_city 74 = .ok (.getfield 37, 3) := by decide +kernel
theorem dX9_city_77 : decode cX9_city 77 = .ok (.iload_n 1, 1) := by decide +kernel
theorem dX9_city_78 : decode cX9_city 78 = .ok (.invokevirtual 197, 3) := by decide +kernel
theorem dX9_city_81 : decode cX9_city 81 = .ok (.ireturn, 1) := by decide +kernel
theorem dX9_city_82 : decode cX9_city 82 = .ok (.aload_n 0, 1) := by decide +kernel
theorem dX9_city_83 : decode cX9_city 83 = .ok (.getfield 28, 3) := by decide +kernel
theorem dX9_city_86 : decode cX9_city 86 = .ok (.aload_n 0, 1) := by decide +kernel
theorem dX9_city_87 : decode cX9_city 87 = .ok (.getfield 28, 3) := by decide +kernel
theorem dX9_city_90 : decode cX9_city 90 = .ok (.getfield 152, 3) := by decide +kernel
theorem dX9_city_93 : decode cX9_city 93 = .ok (.aload_n 0, 1) := by decide +kernel
theorem dX9_city_94 : decode cX9_city 94 = .ok (.getfield 37, 3) := by decide +kernel
theorem dX9_city_97 : decode cX9_city 97 = .ok (.iload_n 1, 1) := by decide +kernel
theorem dX9_city_98 : decode cX9_city 98 = .ok (.invokevirtual 197, 3) := by decide +kernel
theorem dX9_city_101 : decode cX9_city 101 = .ok (.invokevirtual 200, 3) := by decide +kernel
theorem dX9_city_104 : decode cX9_city 104 = .ok (.ireturn, 1) := by decide +kernel
theorem dX9_city_105 : decode cX9_city 105 = .ok (.iconst (-1), 1) := by decide +kernel
theorem dX9_city_106 : decode cX9_city 106 = .ok (.ireturn, 1) := by decide +kernel
theorem dX9_moths_0 : decode cX9_moths 0 = .ok (.aload_n 0, 1) := by decide +kernel
theorem dX9_moths_1 : decode cX9_moths 1 = .ok (.iload_n 1, 1) := by decide +kernel
theorem dX9_moths_2 : decode cX9_moths 2 = .ok (.invokevirtual 204, 3) := by decide +kernel
theorem dX9_moths_5 : decode cX9_moths 5 = .ok (.ifCond .eq 22, 3) := by decide +kernel
theorem dX9_moths_8 : decode cX9_moths 8 = .ok (.aload_n 0, 1) := by decide +kernel
theorem dX9_moths_9 : decode cX9_moths 9 = .ok (.getfield 37, 3) := by decide +kernel
theorem dX9_moths_12 : decode cX9_moths 12 = .ok (.iload_n 1, 1) := by decide +kernel
theorem dX9_moths_13 : decode cX9_moths 13 = .ok (.aload_n 0, 1) := by decide +kernel
theorem dX9_moths_14 : decode cX9_moths 14 = .ok (.getfield 37, 3) := by decide +kernel
theorem dX9_moths_17 : decode cX9_moths 17 = .ok (.iload_n 1, 1) := by decide +kernel
theorem dX9_moths_18 : decode cX9_moths 18 = .ok (.invokevirtual 207, 3) := by decide +kernel
theorem dX9_moths_21 : decode cX9_moths 21 = .ok (.invokevirtual 210, 3) := by decide +kernel
theorem dX9_moths_24 : decode cX9_moths 24 = .ok (.goto 4, 3) := by decide +kernel
theorem dX9_moths_27 : decode cX9_moths 27 = .ok (.iconst (-1), 1) := by decide +kernel
theorem dX9_moths_28 : decode cX9_moths 28 = .ok (.ireturn, 1) := by decide +kernel
theorem dX9_law_0 : decode cX9_law 0 = .ok (.iload_n 1, 1) := by decide +kernel
theorem dX9_law_1 : decode cX9_law 1 = .ok (.iconst 2, 1) := by decide +kernel
theorem dX9_law_2 : decode cX9_law 2 = .ok (.if_icmp .ne 25, 3) := by decide +kernel
theorem dX9_law_5 : decode cX9_law 5 = .ok (.iload_n 2, 1) := by decide +kernel
theorem dX9_law_6 : decode cX9_law 6 = .ok (.invokestatic 185, 3) := by decide +kernel
theorem dX9_law_9 : decode cX9_law 9 = .ok (.ifCond .eq 14, 3) := by decide +kernel
theorem dX9_law_12 : decode cX9_law 12 = .ok (.aload_n 0, 1) := by decide +kernel
theorem dX9_law_13 : decode cX9_law 13 = .ok (.getfield 37, 3) := by decide +kernel
theorem dX9_law_16 : decode cX9_law 16 = .ok (.iload_n 2, 1) := by decide +kernel
theorem dX9_law_17 : decode cX9_law 17 = .ok (.invokevirtual 214, 3) := by decide +kernel
theorem dX9_law_20 : decode cX9_law 20 = .ok (.goto 6, 3) := by decide +kernel
theorem dX9_law_23 : decode cX9_law 23 = .ok (.ldc2_w 218, 3) := by decide +kernel
theorem dX9_law_26 : decode cX9_law 26 = .ok (.lreturn, 1) := by decide +kernel
theorem dX9_law_27 : decode cX9_law 27 = .ok (.iload_n 1, 1) := by decide +kernel
theorem dX9_law_28 : decode cX9_law 28 = .ok (.ifCond .eq 12, 3) := by decide +kernel
theorem dX9_law_31 : decode cX9_law 31 = .ok (.iload_n 1, 1) := by decide +kernel
theorem dX9_law_32 : decode cX9_law 32 = .ok (.iconst 1, 1) := by decide +kernel
theorem dX9_law_33 : decode cX9_law 33 = .ok (.if_icmp .eq 7, 3) := by decide +kernel
theorem dX9_law_36 : decode cX9_law 36 = .ok (.ldc2_w 218, 3) := by decide +kernel
theorem dX9_law_39 : decode cX9_law 39 = .ok (.lreturn, 1) := by decide +kernel
theorem dX9_law_40 : decode cX9_law 40 = .ok (.aload_n 0, 1) := by decide +kernel
theorem dX9_law_41 : decode cX9_law 41 = .ok (.iload_n 2, 1) := by decide +kernel
theorem dX9_law_42 : decode cX9_law 42 = .ok (.invokevirtual 135, 3) := by decide +kernel
theorem dX9_law_45 : decode cX9_law 45 = .ok (.ifCond .eq 23, 3) := by decide +kernel
theorem dX9_law_48 : decode cX9_law 48 = .ok (.aload_n 0, 1) := by decide +kernel
theorem dX9_law_49 : decode cX9_law 49 = .ok (.getfield 37, 3) := by decide +kernel
theorem dX9_law_52 : decode cX9_law 52 = .ok (.iload_n 1, 1) := by decide +kernel
theorem dX9_law_53 : decode cX9_law 53 = .ok (.iload_n 2, 1) := by decide +kernel
theorem dX9_law_54 : decode cX9_law 54 = .ok (.aload_n 0, 1) := by decide +kernel
theorem dX9_law_55 : decode cX9_law 55 = .ok (.getfield 37, 3) := by decide +kernel
theorem dX9_law_58 : decode cX9_law 58 = .ok (.iload_n 2, 1) := by decide +kernel
theorem dX9_law_59 : decode cX9_law 59 = .ok (.invokevirtual 207, 3) := by decide +kernel
theorem dX9_law_62 : decode cX9_law 62 = .ok (.invokevirtual 220, 3) := by decide +kernel
theorem dX9_law_65 : decode cX9_law 65 = .ok (.goto 6, 3) := by decide +kernel
theorem dX9_law_68 : decode cX9_law 68 = .ok (.ldc2_w 218, 3) := by decide +kernel
theorem dX9_law_71 : decode cX9_law 71 = .ok (.lreturn, 1) := by decide +kernel
theorem dX9_mend_0 : decode cX9_mend 0 = .ok (.aload_n 0, 1) := by decide +kernel
theorem dX9_mend_1 : decode cX9_mend 1 = .ok (.iload_n 1, 1) := by decide +kernel
theorem dX9_mend_2 : decode cX9_mend 2 = .ok (.invokevirtual 135, 3) := by decide +kernel
theorem dX9_mend_5 : decode cX9_mend 5 = .ok (.ifCond .ne 5, 3) := by decide +kernel
theorem dX9_mend_8 : decode cX9_mend 8 = .ok (.iconst (-1), 1) := by decide +kernel
theorem dX9_mend_9 : decode cX9_mend 9 = .ok (.ireturn, 1) := by decide +kernel
theorem dX9_mend_10 : decode cX9_mend 10 = .ok (.aload_n 0, 1) := by decide +kernel
theorem dX9_mend_11 : decode cX9_mend 11 = .ok (.getfield 37, 3) := by decide +kernel
theorem dX9_mend_14 : decode cX9_mend 14 = .ok (.getfield 158, 3) := by decide +kernel
theorem dX9_mend_17 : decode cX9_mend 17 = .ok (.iload_n 1, 1) := by decide +kernel
theorem dX9_mend_18 : decode cX9_mend 18 = .ok (.iaload, 1) := by decide +kernel
theorem dX9_mend_19 : decode cX9_mend 19 = .ok (.istore_n 2, 1) := by decide +kernel
theorem dX9_mend_20 : decode cX9_mend 20 = .ok (.iload_n 2, 1) := by decide +kernel
theorem dX9_mend_21 : decode cX9_mend 21 = .ok (.ifCond .gt 6, 3) := by decide +kernel
theorem dX9_mend_24 : decode cX9_mend 24 = .ok (.bipush (-2), 2) := by decide +kernel
theorem dX9_mend_26 : decode cX9_mend 26 = .ok (.ireturn, 1) := by decide +kernel
theorem dX9_mend_27 : decode cX9_mend 27 = .ok (.aload_n 0, 1) := by decide +kernel
theorem dX9_mend_28 : decode cX9_mend 28 = .ok (.getfield 57, 3) := by decide +kernel
theorem dX9_mend_31 : decode cX9_mend 31 = .ok (.iconst 0, 1) := by decide +kernel
theorem dX9_mend_32 : decode cX9_mend 32 = .ok (.iload_n 1, 1) := by decide +kernel
theorem dX9_mend_33 : decode cX9_mend 33 = .ok (.iload_n 2, 1) := by decide +kernel
theorem dX9_mend_34 : decode cX9_mend 34 = .ok (.invokevirtual 224, 3) := by decide +kernel
theorem dX9_mend_37 : decode cX9_mend 37 = .ok (.aload_n 0, 1) := by decide +kernel
theorem dX9_mend_38 : decode cX9_mend 38 = .ok (.getfield 37, 3) := by decide +kernel
theorem dX9_mend_41 : decode cX9_mend 41 = .ok (.getfield 158, 3) := by decide +kernel
theorem dX9_mend_44 : decode cX9_mend 44 = .ok (.iload_n 1, 1) := by decide +kernel
theorem dX9_mend_45 : decode cX9_mend 45 = .ok (.iload_n 2, 1) := by decide +kernel
theorem dX9_mend_46 : decode cX9_mend 46 = .ok (.iconst 1, 1) := by decide +kernel
theorem dX9_mend_47 : decode cX9_mend 47 = .ok (.isub, 1) := by decide +kernel
theorem dX9_mend_48 : decode cX9_mend 48 = .ok (.iastore, 1) := by decide +kernel
theorem dX9_mend_49 : decode cX9_mend 49 = .ok (.aload_n 0, 1) := by decide +kernel
theorem dX9_mend_50 : decode cX9_mend 50 = .ok (.getfield 64, 3) := by decide +kernel
theorem dX9_mend_53 : decode cX9_mend 53 = .ok (.invokevirtual 228, 3) := by decide +kernel
theorem dX9_mend_56 : decode cX9_mend 56 = .ok (.iload_n 2, 1) := by decide +kernel
theorem dX9_mend_57 : decode cX9_mend 57 = .ok (.iconst 1, 1) := by decide +kernel
theorem dX9_mend_58 : decode cX9_mend 58 = .ok (.isub, 1) := by decide +kernel
theorem dX9_mend_59 : decode cX9_mend 59 = .ok (.ireturn, 1) := by decide +kernel
theorem dX9_exchange_0 : decode cX9_exchange 0 = .ok (.aload_n 0, 1) := by decide +kernel
theorem dX9_exchange_1 : decode cX9_exchange 1 = .ok (.iload_n 1, 1) := by decide +kernel
theorem dX9_exchange_2 : decode cX9_exchange 2 = .ok (.invokevirtual 204, 3) := by decide +kernel
theorem dX9_exchange_5 : decode cX9_exchange 5 = .ok (.ifCond .eq 32, 3) := by decide +kernel
theorem dX9_exchange_8 : decode cX9_exchange 8 = .ok (.aload_n 0, 1) := by decide +kernel
theorem dX9_exchange_9 : decode cX9_exchange 9 = .ok (.iload_n 2, 1) := by decide +kernel
theorem dX9_exchange_10 : decode cX9_exchange 10 = .ok (.invokevirtual 204, 3) := by decide +kernel
theorem dX9_exchange_13 : decode cX9_exchange 13 = .ok (.ifCond .eq 24, 3) := by decide +kernel
theorem dX9_exchange_16 : decode cX9_exchange 16 = .ok (.aload_n 0, 1) := by decide +kernel
theorem dX9_exchange_17 : decode cX9_exchange 17 = .ok (.getfield 28, 3) := by decide +kernel
theorem dX9_exchange_20 : decode cX9_exchange 20 = .ok (.getfield 149, 3) := by decide +kernel
theorem dX9_exchange_23 : decode cX9_exchange 23 = .ok (.iload_n 1, 1) := by decide +kernel
theorem dX9_exchange_24 : decode cX9_exchange 24 = .ok (.iaload, 1) := by decide +kernel
theorem dX9_exchange_25 : decode cX9_exchange 25 = .ok (.aload_n 0, 1) := by decide +kernel
theorem dX9_exchange_26 : decode cX9_exchange 26 = .ok (.getfield 28, 3) := by decide +kernel
theorem dX9_exchange_29 : decode cX9_exchange 29 = .ok (.getfield 149, 3) := by decide +kernel
theorem dX9_exchange_32 : decode cX9_exchange 32 = .ok (.iload_n 2, 1) := by decide +kernel
theorem dX9_exchange_33 : decode cX9_exchange 33 = .ok (.iaload, 1) := by decide +kernel
theorem dX9_exchange_34 : decode cX9_exchange 34 = .ok (.if_icmp .ne 5, 3) := by decide +kernel
theorem dX9_exchange_37 : decode cX9_exchange 37 = .ok (.iconst 0, 1) := by decide +kernel
theorem dX9_exchange_38 : decode cX9_exchange 38 = .ok (.ireturn, 1) := by decide +kernel
theorem dX9_exchange_39 : decode cX9_exchange 39 = .ok (.aload_n 0, 1) := by decide +kernel
theorem dX9_exchange_40 : decode cX9_exchange 40 = .ok (.getfield 57, 3) := by decide +kernel
theorem dX9_exchange_43 : decode cX9_exchange 43 = .ok (.iconst 1, 1) := by decide +kernel
theorem dX9_exchange_44 : decode cX9_exchange 44 = .ok (.iload_n 1, 1) := by decide +kernel
theorem dX9_exchange_45 : decode cX9_exchange 45 = .ok (.iload_n 2, 1) := by decide +kernel
theorem dX9_exchange_46 : decode cX9_exchange 46 = .ok (.invokevirtual 224, 3) := by decide +kernel
theorem dX9_exchange_49 : decode cX9_exchange 49 = .ok (.aload_n 0, 1) := by decide +kernel
theorem dX9_exchange_50 : decode cX9_exchange 50 = .ok (.getfield 37, 3) := by decide +kernel
theorem dX9_exchange_53 : decode cX9_exchange 53 = .ok (.iload_n 1, 1) := by decide +kernel
theorem dX9_exchange_54 : decode cX9_exchange 54 = .ok (.invokevirtual 231, 3) := by decide +kernel
theorem dX9_exchange_57 : decode cX9_exchange 57 = .ok (.aload_n 0, 1) := by decide +kernel
theorem dX9_exchange_58 : decode cX9_exchange 58 = .ok (.getfield 37, 3) := by decide +kernel
theorem dX9_exchange_61 : decode cX9_exchange 61 = .ok (.iload_n 2, 1) := by decide +kernel
theorem dX9_exchange_62 : decode cX9_exchange 62 = .ok (.invokevirtual 231, 3) := by decide +kernel
theorem dX9_exchange_65 : decode cX9_exchange 65 = .ok (.aload_n 0, 1) := by decide +kernel
theorem dX9_exchange_66 : decode cX9_exchange 66 = .ok (.getfield 64, 3) := by decide +kernel
theorem dX9_exchange_69 : decode cX9_exchange 69 = .ok (.invokevirtual 228, 3) := by decide +kernel
theorem dX9_exchange_72 : decode cX9_exchange 72 = .ok (.iconst 1, 1) := by decide +kernel
theorem dX9_exchange_73 : decode cX9_exchange 73 = .ok (.ireturn, 1) := by decide +kernel
theorem dX9_give_0 : decode cX9_give 0 = .ok (.aload_n 0, 1) := by decide +kernel
theorem dX9_give_1 : decode cX9_give 1 = .ok (.iload_n 1, 1) := by decide +kernel
theorem dX9_give_2 : decode cX9_give 2 = .ok (.invokevirtual 204, 3) := by decide +kernel
theorem dX9_give_5 : decode cX9_give 5 = .ok (.ifCond .eq 45, 3) := by decide +kernel
theorem dX9_give_8 : decode cX9_give 8 = .ok (.aload_n 0, 1) := by decide +kernel
theorem dX9_give_9 : decode cX9_give 9 = .ok (.iload_n 2, 1) := by decide +kernel
theorem dX9_give_10 : decode cX9_give 10 = .ok (.invokevirtual 172, 3) := by decide +kernel
theorem dX9_give_13 : decode cX9_give 13 = .ok (.ifCond .eq 37, 3) := by decide +kernel
theorem dX9_give_16 : decode cX9_give 16 = .ok (.aload_n 0, 1) := by decide +kernel
theorem dX9_give_17 : decode cX9_give 17 = .ok (.getfield 37, 3) := by decide +kernel
theorem dX9_give_20 : decode cX9_give 20 = .ok (.getfield 146, 3) := by decide +kernel
theorem dX9_give_23 : decode cX9_give 23 = .ok (.iload_n 1, 1) := by decide +kernel
theorem dX9_give_24 : decode cX9_give 24 = .ok (.iaload, 1) := by decide +kernel
theorem dX9_give_25 : decode cX9_give 25 = .ok (.iload_n 2, 1) := by decide +kernel
theorem dX9_give_26 : decode cX9_give 26 = .ok (.if_icmp .eq 24, 3) := by decide +kernel
theorem dX9_give_29 : decode cX9_give 29 = .ok (.aload_n 0, 1) := by decide +kernel
theorem dX9_give_30 : decode cX9_give 30 = .ok (.getfield 28, 3) := by decide +kernel
theorem dX9_give_33 : decode cX9_give 33 = .ok (.getfield 175, 3) := by decide +kernel
theorem dX9_give_36 : decode cX9_give 36 = .ok (.iload_n 2, 1) := by decide +kernel
theorem dX9_give_37 : decode cX9_give 37 = .ok (.iaload, 1) := by decide +kernel
theorem dX9_give_38 : decode cX9_give 38 = .ok (.aload_n 0, 1) := by decide +kernel
theorem dX9_give_39 : decode cX9_give 39 = .ok (.getfield 28, 3) := by decide +kernel
theorem dX9_give_42 : decode cX9_give 42 = .ok (.getfield 149, 3) := by decide +kernel
theorem dX9_give_45 : decode cX9_give 45 = .ok (.iload_n 1, 1) := by decide +kernel
theorem dX9_give_46 : decode cX9_give 46 = .ok (.iaload, 1) := by decide +kernel
theorem dX9_give_47 : decode cX9_give 47 = .ok (.if_icmp .ne 5, 3) := by decide +kernel
theorem dX9_give_50 : decode cX9_give 50 = .ok (.iconst 0, 1) := by decide +kernel
theorem dX9_give_51 : decode cX9_give 51 = .ok (.ireturn, 1) := by decide +kernel
theorem dX9_give_52 : decode cX9_give 52 = .ok (.aload_n 0, 1) := by decide +kernel
theorem dX9_give_53 : decode cX9_give 53 = .ok (.getfield 57, 3) := by decide +kernel
theorem dX9_give_56 : decode cX9_give 56 = .ok (.iconst 2, 1) := by decide +kernel
theorem dX9_give_57 : decode cX9_give 57 = .ok (.iload_n 1, 1) := by decide +kernel
theorem dX9_give_58 : decode cX9_give 58 = .ok (.aload_n 0, 1) := by decide +kernel
theorem dX9_give_59 : decode cX9_give 59 = .ok (.getfield 37, 3) := by decide +kernel
theorem dX9_give_62 : decode cX9_give 62 = .ok (.getfield 146, 3) := by decide +kernel
theorem dX9_give_65 : decode cX9_give 65 = .ok (.iload_n 1, 1) := by decide +kernel
theorem dX9_give_66 : decode cX9_give 66 = .ok (.iaload, 1) := by decide +kernel
theorem dX9_give_67 : decode cX9_give 67 = .ok (.invokevirtual 224, 3) := by decide +kernel
theorem dX9_give_70 : decode cX9_give 70 = .ok (.aload_n 0, 1) := by decide +kernel
theorem dX9_give_71 : decode cX9_give 71 = .ok (.getfield 37, 3) := by decide +kernel
theorem dX9_give_74 : decode cX9_give 74 = .ok (.getfield 146, 3) := by decide +kernel
theorem dX9_give_77 : decode cX9_give 77 = .ok (.iload_n 1, 1) := by decide +kernel
theorem dX9_give_78 : decode cX9_give 78 = .ok (.iload_n 2, 1) := by decide +kernel
theorem dX9_give_79 : decode cX9_give 79 = .ok (.iastore, 1) := by decide +kernel
theorem dX9_give_80 : decode cX9_give 80 = .ok (.aload_n 0, 1) := by decide +kernel
theorem dX9_give_81 : decode cX9_give 81 = .ok (.getfield 64, 3) := by decide +kernel
theorem dX9_give_84 : decode cX9_give 84 = .ok (.invokevirtual 228, 3) := by decide +kernel
theorem dX9_give_87 : decode cX9_give 87 = .ok (.iconst 1, 1) := by decide +kernel
theorem dX9_give_88 : decode cX9_give 88 = .ok (.ireturn, 1) := by decide +kernel
theorem dX9_tea_0 : decode cX9_tea 0 = .ok (.iload_n 1, 1) := by decide +kernel
theorem dX9_tea_1 : decode cX9_tea 1 = .ok (.invokestatic 185, 3) := by decide +kernel
theorem dX9_tea_4 : decode cX9_tea 4 = .ok (.ifCond .ne 5, 3) := by decide +kernel
theorem dX9_tea_7 : decode cX9_tea 7 = .ok (.iconst (-1), 1) := by decide +kernel
theorem dX9_tea_8 : decode cX9_tea 8 = .ok (.ireturn, 1) := by decide +kernel
theorem dX9_tea_9 : decode cX9_tea 9 = .ok (.iconst 1, 1) := by decide +kernel
theorem dX9_tea_10 : decode cX9_tea 10 = .ok (.iload_n 1, 1) := by decide +kernel
theorem dX9_tea_11 : decode cX9_tea 11 = .ok (.isub, 1) := by decide +kernel
theorem dX9_tea_12 : decode cX9_tea 12 = .ok (.istore_n 2, 1) := by decide +kernel
theorem dX9_tea_13 : decode cX9_tea 13 = .ok (.aload_n 0, 1) := by decide +kernel
theorem dX9_tea_14 : decode cX9_tea 14 = .ok (.getfield 37, 3) := by decide +kernel
theorem dX9_tea_17 : decode cX9_tea 17 = .ok (.getfield 188, 3) := by decide +kernel
theorem dX9_tea_20 : decode cX9_tea 20 = .ok (.iload_n 2, 1) := by decide +kernel
theorem dX9_tea_21 : decode cX9_tea 21 = .ok (.iaload, 1) := by decide +kernel
theorem dX9_tea_22 : decode cX9_tea 22 = .ok (.istore_n 3, 1) := by decide +kernel
theorem dX9_tea_23 : decode cX9_tea 23 = .ok (.iload_n 3, 1) := by decide +kernel
theorem dX9_tea_24 : decode cX9_tea 24 = .ok (.ifCond .gt 6, 3) := by decide +kernel
theorem dX9_tea_27 : decode cX9_tea 27 = .ok (.bipush (-2), 2) := by decide +kernel
theorem dX9_tea_29 : decode cX9_tea 29 = .ok (.ireturn, 1) := by decide +kernel
theorem dX9_tea_30 : decode cX9_tea 30 = .ok (.aload_n 0, 1) := by decide +kernel
theorem dX9_tea_31 : decode cX9_tea 31 = .ok (.getfield 57, 3) := by decide +kernel
theorem dX9_tea_34 : decode cX9_tea 34 = .ok (.iconst 3, 1) := by decide +kernel
theorem dX9_tea_35 : decode cX9_tea 35 = .ok (.iload_n 2, 1) := by decide +kernel
theorem dX9_tea_36 : decode cX9_tea 36 = .ok (.iload_n 3, 1) := by decide +kernel
theorem dX9_tea_37 : decode cX9_tea 37 = .ok (.invokevirtual 224, 3) := by decide +kernel
theorem dX9_tea_40 : decode cX9_tea 40 = .ok (.aload_n 0, 1) := by decide +kernel
theorem dX9_tea_41 : decode cX9_tea 41 = .ok (.getfield 37, 3) := by decide +kernel
theorem dX9_tea_44 : decode cX9_tea 44 = .ok (.getfield 188, 3) := by decide +kernel
theorem dX9_tea_47 : decode cX9_tea 47 = .ok (.iload_n 2, 1) := by decide +kernel
theorem dX9_tea_48 : decode cX9_tea 48 = .ok (.iconst 0, 1) := by decide +kernel
theorem dX9_tea_49 : decode cX9_tea 49 = .ok (.iload_n 3, 1) := by decide +kernel
theorem dX9_tea_50 : decode cX9_tea 50 = .ok (.aload_n 0, 1) := by decide +kernel
theorem dX9_tea_51 : decode cX9_tea 51 = .ok (.getfield 28, 3) := by decide +kernel
theorem dX9_tea_54 : decode cX9_tea 54 = .ok (.getfield 234, 3) := by decide +kernel
theorem dX9_tea_57 : decode cX9_tea 57 = .ok (.iconst 2, 1) := by decide +kernel
theorem dX9_tea_58 : decode cX9_tea 58 = .ok (.iaload, 1) := by decide +kernel
theorem dX9_tea_59 : decode cX9_tea 59 = .ok (.isub, 1) := by decide +kernel
theorem dX9_tea_60 : decode cX9_tea 60 = .ok (.invokestatic 237, 3) := by decide +kernel
theorem dX9_tea_63 : decode cX9_tea 63 = .ok (.iastore, 1) := by decide +kernel
theorem dX9_tea_64 : decode cX9_tea 64 = .ok (.aload_n 0, 1) := by decide +kernel
theorem dX9_tea_65 : decode cX9_tea 65 = .ok (.getfield 64, 3) := by decide +kernel
theorem dX9_tea_68 : decode cX9_tea 68 = .ok (.invokevirtual 228, 3) := by decide +kernel
theorem dX9_tea_71 : decode cX9_tea 71 = .ok (.aload_n 0, 1) := by decide +kernel
theorem dX9_tea_72 : decode cX9_tea 72 = .ok (.getfield 37, 3) := by decide +kernel
theorem dX9_tea_75 : decode cX9_tea 75 = .ok (.getfield 188, 3) := by decide +kernel
theorem dX9_tea_78 : decode cX9_tea 78 = .ok (.iload_n 2, 1) := by decide +kernel
theorem dX9_tea_79 : decode cX9_tea 79 = .ok (.iaload, 1) := by decide +kernel
theorem dX9_tea_80 : decode cX9_tea 80 = .ok (.ireturn, 1) := by decide +kernel
theorem dX9_go_0 : decode cX9_go 0 = .ok (.iload_n 1, 1) := by decide +kernel
theorem dX9_go_1 : decode cX9_go 1 = .ok (.ifCond .lt 24, 3) := by decide +kernel
theorem dX9_go_4 : decode cX9_go 4 = .ok (.iload_n 1, 1) := by decide +kernel
theorem dX9_go_5 : decode cX9_go 5 = .ok (.bipush 99, 2) := by decide +kernel
theorem dX9_go_7 : decode cX9_go 7 = .ok (.if_icmp .gt 18, 3) := by decide +kernel
theorem dX9_go_10 : decode cX9_go 10 = .ok (.aload_n 0, 1) := by decide +kernel
theorem dX9_go_11 : decode cX9_go 11 = .ok (.getfield 37, 3) := by decide +kernel
theorem dX9_go_14 : decode cX9_go 14 = .ok (.getfield 242, 3) := by decide +kernel
theorem dX9_go_17 : decode cX9_go 17 = .ok (.iload_n 1, 1) := by decide +kernel
theorem dX9_go_18 : decode cX9_go 18 = .ok (.iadd, 1) := by decide +kernel
theorem dX9_go_19 : decode cX9_go 19 = .ok (.sipush 9900, 3) := by decide +kernel
theorem dX9_go_22 : decode cX9_go 22 = .ok (.if_icmp .le 5, 3) := by decide +kernel
theorem dX9_go_25 : decode cX9_go 25 = .ok (.iconst (-1), 1) := by decide +kernel
theorem dX9_go_26 : decode cX9_go 26 = .ok (.ireturn, 1) := by decide +kernel
theorem dX9_go_27 : decode cX9_go 27 = .ok (.iload_n 1, 1) := by decide +kernel
theorem dX9_go_28 : decode cX9_go 28 = .ok (.ifCond .le 16, 3) := by decide +kernel
theorem dX9_go_31 : decode cX9_go 31 = .ok (.aload_n 0, 1) := by decide +kernel
theorem dX9_go_32 : decode cX9_go 32 = .ok (.getfield 37, 3) := by decide +kernel
theorem dX9_go_35 : decode cX9_go 35 = .ok (.iload_n 1, 1) := by decide +kernel
theorem dX9_go_36 : decode cX9_go 36 = .ok (.iconst 1, 1) := by decide +kernel
theorem dX9_go_37 : decode cX9_go 37 = .ok (.invokevirtual 245, 3) := by decide +kernel
theorem dX9_go_40 : decode cX9_go 40 = .ok (.aload_n 0, 1) := by decide +kernel
theorem dX9_go_41 : decode cX9_go 41 = .ok (.invokevirtual 110, 3) := by decide +kernel
theorem dX9_go_44 : decode cX9_go 44 = .ok (.aload_n 0, 1) := by decide +kernel
theorem dX9_go_45 : decode cX9_go 45 = .ok (.getfield 37, 3) := by decide +kernel
theorem dX9_go_48 : decode cX9_go 48 = .ok (.getfield 242, 3) := by decide +kernel
theorem dX9_go_51 : decode cX9_go 51 = .ok (.ireturn, 1) := by decide +kernel
theorem dX9_ahead_0 : decode cX9_ahead 0 = .ok (.iload_n 1, 1) := by decide +kernel
theorem dX9_ahead_1 : decode cX9_ahead 1 = .ok (.ifCond .lt 9, 3) := by decide +kernel
theorem dX9_ahead_4 : decode cX9_ahead 4 = .ok (.iload_n 1, 1) := by decide +kernel
theorem dX9_ahead_5 : decode cX9_ahead 5 = .ok (.bipush 60, 2) := by decide +kernel
theorem dX9_ahead_7 : decode cX9_ahead 7 = .ok (.if_icmp .le 5, 3) := by decide +kernel
theorem dX9_ahead_10 : decode cX9_ahead 10 = .ok (.iconst (-1), 1) := by decide +kernel
theorem dX9_ahead_11 : decode cX9_ahead 11 = .ok (.ireturn, 1) := by decide +kernel
theorem dX9_ahead_12 : decode cX9_ahead 12 = .ok (.iload_n 2, 1) := by decide +kernel
theorem dX9_ahead_13 : decode cX9_ahead 13 = .ok (.ifCond .ne 22, 3) := by decide +kernel
theorem dX9_ahead_16 : decode cX9_ahead 16 = .ok (.aload_n 0, 1) := by decide +kernel
theorem dX9_ahead_17 : decode cX9_ahead 17 = .ok (.iload_n 3, 1) := by decide +kernel
theorem dX9_ahead_18 : decode cX9_ahead 18 = .ok (.invokevirtual 135, 3) := by decide +kernel
theorem dX9_ahead_21 : decode cX9_ahead 21 = .ok (.ifCond .eq 14, 3) := by decide +kernel
theorem dX9_ahead_24 : decode cX9_ahead 24 = .ok (.aload_n 0, 1) := by decide +kernel
theorem dX9_ahead_25 : decode cX9_ahead 25 = .ok (.iload_n 1, 1) := by decide +kernel
theorem dX9_ahead_26 : decode cX9_ahead 26 = .ok (.invokevirtual 249, 3) := by decide +kernel
theorem dX9_ahead_29 : decode cX9_ahead 29 = .ok (.getfield 158, 3) := by decide +kernel
theorem dX9_ahead_32 : decode cX9_ahead 32 = .ok (.iload_n 3, 1) := by decide +kernel
theorem dX9_ahead_33 : decode cX9_ahead 33 = .ok (.iaload, 1) := by decide +kernel
theorem dX9_ahead_34 : decode cX9_ahead 34 = .ok (.ireturn, 1) := by decide +kernel
theorem dX9_ahead_35 : decode cX9_ahead 35 = .ok (.iload_n 2, 1) := by decide +kernel
theorem dX9_ahead_36 : decode cX9_ahead 36 = .ok (.iconst 1, 1) := by decide +kernel
theorem dX9_ahead_37 : decode cX9_ahead 37 = .ok (.if_icmp .ne 21, 3) := by decide +kernel
theorem dX9_ahead_40 : decode cX9_ahead 40 = .ok (.iload_n 3, 1) := by decide +kernel
theorem dX9_ahead_41 : decode cX9_ahead 41 = .ok (.invokestatic 185, 3) := by decide +kernel
theorem dX9_ahead_44 : decode cX9_ahead 44 = .ok (.ifCond .eq 14, 3) := by decide +kernel
theorem dX9_ahead_47 : decode cX9_ahead 47 = .ok (.aload_n 0, 1) := by decide +kernel
theorem dX9_ahead_48 : decode cX9_ahead 48 = .ok (.iload_n 1, 1) := by decide +kernel
theorem dX9_ahead_49 : decode cX9_ahead 49 = .ok (.invokevirtual 249, 3) := by decide +kernel
theorem dX9_ahead_52 : decode cX9_ahead 52 = .ok (.getfield 188, 3) := by decide +kernel
theorem dX9_ahead_55 : decode cX9_ahead 55 = .ok (.iload_n 3, 1) := by decide +kernel
theorem dX9_ahead_56 : decode cX9_ahead 56 = .ok (.iaload, 1) := by decide +kernel
theorem dX9_ahead_57 : decode cX9_ahead 57 = .ok (.ireturn, 1) := by decide +kernel
theorem dX9_ahead_58 : decode cX9_ahead 58 = .ok (.iload_n 2, 1) := by decide +kernel
theorem dX9_ahead_59 : decode cX9_ahead 59 = .ok (.iconst 2, 1) := by decide +kernel
theorem dX9_ahead_60 : decode cX9_ahead 60 = .ok (.if_icmp .ne 22, 3) := by decide +kernel
theorem dX9_ahead_63 : decode cX9_ahead 63 = .ok (.aload_n 0, 1) := by decide +kernel
theorem dX9_ahead_64 : decode cX9_ahead 64 = .ok (.iload_n 1, 1) := by decide +kernel
theorem dX9_ahead_65 : decode cX9_ahead 65 = .ok (.invokevirtual 249, 3) := by decide +kernel
theorem dX9_ahead_68 : decode cX9_ahead 68 = .ok (.invokevirtual 253, 3) := by decide +kernel
theorem dX9_ahead_71 : decode cX9_ahead 71 = .ok (.aload_n 0, 1) := by decide +kernel
theorem dX9_ahead_72 : decode cX9_ahead 72 = .ok (.getfield 37, 3) := by decide +kernel
theorem dX9_ahead_75 : decode cX9_ahead 75 = .ok (.invokevirtual 253, 3) := by decide +kernel
theorem dX9_ahead_78 : decode cX9_ahead 78 = .ok (.isub, 1) := by decide +kernel
theorem dX9_ahead_79 : decode cX9_ahead 79 = .ok (.goto 4, 3) := by decide +kernel
theorem dX9_ahead_82 : decode cX9_ahead 82 = .ok (.iconst (-1), 1) := by decide +kernel
theorem dX9_ahead_83 : decode cX9_ahead 83 = .ok (.ireturn, 1) := by decide +kernel
theorem dX9_firstBreach_0 : decode cX9_firstBreach 0 = .ok (.aload_n 0, 1) := by decide +kernel
theorem dX9_firstBreach_1 : decode cX9_firstBreach 1 = .ok (.getfield 44, 3) := by decide +kernel
theorem dX9_firstBreach_4 : decode cX9_firstBreach 4 = .ok (.aload_n 0, 1) := by decide +kernel
theorem dX9_firstBreach_5 : decode cX9_firstBreach 5 = .ok (.getfield 37, 3) := by decide +kernel
theorem dX9_firstBreach_8 : decode cX9_firstBreach 8 = .ok (.invokevirtual 256, 3) := by decide +kernel
theorem dX9_firstBreach_11 : decode cX9_firstBreach 11 = .ok (.iconst 1, 1) := by decide +kernel
theorem dX9_firstBreach_12 : decode cX9_firstBreach 12 = .ok (.istore_n 1, 1) := by decide +kernel
theorem dX9_firstBreach_13 : decode cX9_firstBreach 13 = .ok (.iload_n 1, 1) := by decide +kernel
theorem dX9_firstBreach_14 : decode cX9_firstBreach 14 = .ok (.bipush 99, 2) := by decide +kernel
theorem dX9_firstBreach_16 : decode cX9_firstBreach 16 = .ok (.if_icmp .gt 37, 3) := by decide +kernel
theorem dX9_firstBreach_19 : decode cX9_firstBreach 19 = .ok (.aload_n 0, 1) := by decide +kernel
theorem dX9_firstBreach_20 : decode cX9_firstBreach 20 = .ok (.getfield 44, 3) := by decide +kernel
theorem dX9_firstBreach_23 : decode cX9_firstBreach 23 = .ok (.iconst 1, 1) := by decide +kernel
theorem dX9_firstBreach_24 : decode cX9_firstBreach 24 = .ok (.iconst 0, 1) := by decide +kernel
theorem dX9_firstBreach_25 : decode cX9_firstBreach 25 = .ok (.invokevirtual 245, 3) := by decide +kernel
theorem dX9_firstBreach_28 : decode cX9_firstBreach 28 = .ok (.aload_n 0, 1) := by decide +kernel
theorem dX9_firstBreach_29 : decode cX9_firstBreach 29 = .ok (.getfield 44, 3) := by decide +kernel
theorem dX9_firstBreach_32 : decode cX9_firstBreach 32 = .ok (.invokevirtual 253, 3) := by decide +kernel
theorem dX9_firstBreach_35 : decode cX9_firstBreach 35 = .ok (.aload_n 0, 1) := by decide +kernel
theorem dX9_firstBreach_36 : decode cX9_firstBreach 36 = .ok (.getfield 37, 3) := by decide +kernel
theorem dX9_firstBreach_39 : decode cX9_firstBreach 39 = .ok (.invokevirtual 253, 3) := by decide +kernel
theorem dX9_firstBreach_42 : decode cX9_firstBreach 42 = .ok (.if_icmp .le 5, 3) := by decide +kernel
theorem dX9_firstBreach_45 : decode cX9_firstBreach 45 = .ok (.iload_n 1, 1) := by decide +kernel
theorem dX9_firstBreach_46 : decode cX9_firstBreach 46 = .ok (.ireturn, 1) := by decide +kernel
theorem dX9_firstBreach_47 : decode cX9_firstBreach 47 = .ok (.iinc 1 1, 3) := by decide +kernel
theorem dX9_firstBreach_50 : decode cX9_firstBreach 50 = .ok (.goto (-37), 3) := by decide +kernel
theorem dX9_firstBreach_53 : decode cX9_firstBreach 53 = .ok (.bipush (-2), 2) := by decide +kernel
theorem dX9_firstBreach_55 : decode cX9_firstBreach 55 = .ok (.ireturn, 1) := by decide +kernel
theorem dX9_quiet_0 : decode cX9_quiet 0 = .ok (.aload_n 0, 1) := by decide +kernel
theorem dX9_quiet_1 : decode cX9_quiet 1 = .ok (.getfield 44, 3) := by decide +kernel
theorem dX9_quiet_4 : decode cX9_quiet 4 = .ok (.aload_n 0, 1) := by decide +kernel
theorem dX9_quiet_5 : decode cX9_quiet 5 = .ok (.getfield 37, 3) := by decide +kernel
theorem dX9_quiet_8 : decode cX9_quiet 8 = .ok (.invokevirtual 256, 3) := by decide +kernel
theorem dX9_quiet_11 : decode cX9_quiet 11 = .ok (.iconst 0, 1) := by decide +kernel
theorem dX9_quiet_12 : decode cX9_quiet 12 = .ok (.istore_n 1, 1) := by decide +kernel
theorem dX9_quiet_13 : decode cX9_quiet 13 = .ok (.iload_n 1, 1) := by decide +kernel
theorem dX9_quiet_14 : decode cX9_quiet 14 = .ok (.bipush 99, 2) := by decide +kernel
theorem dX9_quiet_16 : decode cX9_quiet 16 = .ok (.if_icmp .gt 30, 3) := by decide +kernel
theorem dX9_quiet_19 : decode cX9_quiet 19 = .ok (.aload_n 0, 1) := by decide +kernel
theorem dX9_quiet_20 : decode cX9_quiet 20 = .ok (.getfield 44, 3) := by decide +kernel
theorem dX9_quiet_23 : decode cX9_quiet 23 = .ok (.invokevirtual 259, 3) := by decide +kernel
theorem dX9_quiet_26 : decode cX9_quiet 26 = .ok (.ifCond .ne 5, 3) := by decide +kernel
theorem dX9_quiet_29 : decode cX9_quiet 29 = .ok (.iload_n 1, 1) := by decide +kernel
theorem dX9_quiet_30 : decode cX9_quiet 30 = .ok (.ireturn, 1) := by decide +kernel
theorem dX9_quiet_31 : decode cX9_quiet 31 = .ok (.aload_n 0, 1) := by decide +kernel
theorem dX9_quiet_32 : decode cX9_quiet 32 = .ok (.getfield 44, 3) := by decide +kernel
theorem dX9_quiet_35 : decode cX9_quiet 35 = .ok (.iconst 1, 1) := by decide +kernel
theorem dX9_quiet_36 : decode cX9_quiet 36 = .ok (.iconst 0, 1) := by decide +kernel
theorem dX9_quiet_37 : decode cX9_quiet 37 = .ok (.invokevirtual 245, 3) := by decide +kernel
theorem dX9_quiet_40 : decode cX9_quiet 40 = .ok (.iinc 1 1, 3) := by decide +kernel
theorem dX9_quiet_43 : decode cX9_quiet 43 = .ok (.goto (-30), 3) := by decide +kernel
theorem dX9_quiet_46 : decode cX9_quiet 46 = .ok (.bipush (-2), 2) := by decide +kernel
theorem dX9_quiet_48 : decode cX9_quiet 48 = .ok (.ireturn, 1) := by decide +kernel
theorem dX9_best_0 : decode cX9_best 0 = .ok (.iload_n 1, 1) := by decide +kernel
theorem dX9_best_1 : decode cX9_best 1 = .ok (.ifCond .lt 28, 3) := by decide +kernel
theorem dX9_best_4 : decode cX9_best 4 = .ok (.iload_n 1, 1) := by decide +kernel
theorem dX9_best_5 : decode cX9_best 5 = .ok (.iconst 5, 1) := by decide +kernel
theorem dX9_best_6 : decode cX9_best 6 = .ok (.if_icmp .gt 23, 3) := by decide +kernel
theorem dX9_best_9 : decode cX9_best 9 = .ok (.iload_n 2, 1) := by decide +kernel
theorem dX9_best_10 : decode cX9_best 10 = .ok (.ifCond .lt 19, 3) := by decide +kernel
theorem dX9_best_13 : decode cX9_best 13 = .ok (.iload_n 2, 1) := by decide +kernel
theorem dX9_best_14 : decode cX9_best 14 = .ok (.sipush 999, 3) := by decide +kernel
theorem dX9_best_17 : decode cX9_best 17 = .ok (.if_icmp .gt 12, 3) := by decide +kernel
theorem dX9_best_20 : decode cX9_best 20 = .ok (.iload_n 3, 1) := by decide +kernel
theorem dX9_best_21 : decode cX9_best 21 = .ok (.ifCond .lt 8, 3) := by decide +kernel
theorem dX9_best_24 : decode cX9_best 24 = .ok (.iload_n 3, 1) := by decide +kernel
theorem dX9_best_25 : decode cX9_best 25 = .ok (.iconst 1, 1) := by decide +kernel
theorem dX9_best_26 : decode cX9_best 26 = .ok (.if_icmp .le 5, 3) := by decide +kernel
theorem dX9_best_29 : decode cX9_best 29 = .ok (.iconst (-1), 1) := by decide +kernel
theorem dX9_best_30 : decode cX9_best 30 = .ok (.ireturn, 1) := by decide +kernel
theorem dX9_best_31 : decode cX9_best 31 = .ok (.bipush (-2), 2) := by decide +kernel
theorem dX9_best_33 : decode cX9_best 33 = .ok (.istore 4, 2) := by decide +kernel
theorem dX9_best_35 : decode cX9_best 35 = .ok (.bipush (-2), 2) := by decide +kernel
theorem dX9_best_37 : decode cX9_best 37 = .ok (.istore 5, 2) := by decide +kernel
theorem dX9_best_39 : decode cX9_best 39 = .ok (.iconst 0, 1) := by decide +kernel
theorem dX9_best_40 : decode cX9_best 40 = .ok (.istore 6, 2) := by decide +kernel
theorem dX9_best_42 : decode cX9_best 42 = .ok (.iload 6, 2) := by decide +kernel
theorem dX9_best_44 : decode cX9_best 44 = .ok (.iconst 1, 1) := by decide +kernel
theorem dX9_best_45 : decode cX9_best 45 = .ok (.aload_n 0, 1) := by decide +kernel
theorem dX9_best_46 : decode cX9_best 46 = .ok (.getfield 28, 3) := by decide +kernel
theorem dX9_best_49 : decode cX9_best 49 = .ok (.getfield 132, 3) := by decide +kernel
theorem dX9_best_52 : decode cX9_best 52 = .ok (.ishl, 1) := by decide +kernel
theorem dX9_best_53 : decode cX9_best 53 = .ok (.if_icmp .ge 53, 3) := by decide +kernel
theorem dX9_best_56 : decode cX9_best 56 = .ok (.aload_n 0, 1) := by decide +kernel
theorem dX9_best_57 : decode cX9_best 57 = .ok (.iload 6, 2) := by decide +kernel
theorem dX9_best_59 : decode cX9_best 59 = .ok (.iload_n 1, 1) := by decide +kernel
theorem dX9_best_60 : decode cX9_best 60 = .ok (.iload_n 2, 1) := by decide +kernel
theorem dX9_best_61 : decode cX9_best 61 = .ok (.invokevirtual 262, 3) := by decide +kernel
theorem dX9_best_64 : decode cX9_best 64 = .ok (.ifCond .eq 36, 3) := by decide +kernel
theorem dX9_best_67 : decode cX9_best 67 = .ok (.aload_n 0, 1) := by decide +kernel
theorem dX9_best_68 : decode cX9_best 68 = .ok (.getfield 28, 3) := by decide +kernel
theorem dX9_best_71 : decode cX9_best 71 = .ok (.aload_n 0, 1) := by decide +kernel
theorem dX9_best_72 : decode cX9_best 72 = .ok (.getfield 28, 3) := by decide +kernel
theorem dX9_best_75 : decode cX9_best 75 = .ok (.getfield 152, 3) := by decide +kernel
theorem dX9_best_78 : decode cX9_best 78 = .ok (.iload 6, 2) := by decide +kernel
theorem dX9_best_80 : decode cX9_best 80 = .ok (.invokevirtual 200, 3) := by decide +kernel
theorem dX9_best_83 : decode cX9_best 83 = .ok (.istore 7, 2) := by decide +kernel
theorem dX9_best_85 : decode cX9_best 85 = .ok (.iload 7, 2) := by decide +kernel
theorem dX9_best_87 : decode cX9_best 87 = .ok (.iload 5, 2) := by decide +kernel
theorem dX9_best_89 : decode cX9_best 89 = .ok (.if_icmp .le 11, 3) := by decide +kernel
theorem dX9_best_92 : decode cX9_best 92 = .ok (.iload 7, 2) := by decide +kernel
theorem dX9_best_94 : decode cX9_best 94 = .ok (.istore 5, 2) := by decide +kernel
theorem dX9_best_96 : decode cX9_best 96 = .ok (.iload 6, 2) := by decide +kernel
theorem dX9_best_98 : decode cX9_best 98 = .ok (.istore 4, 2) := by decide +kernel
theorem dX9_best_100 : decode cX9_best 100 = .ok (.iinc 6 1, 3) := by decide +kernel
theorem dX9_best_103 : decode cX9_best 103 = .ok (.goto (-61), 3) := by decide +kernel
theorem dX9_best_106 : decode cX9_best 106 = .ok (.iload_n 3, 1) := by decide +kernel
theorem dX9_best_107 : decode cX9_best 107 = .ok (.ifCond .ne 8, 3) := by decide +kernel
theorem dX9_best_110 : decode cX9_best 110 = .ok (.iload 4, 2) := by decide +kernel
theorem dX9_best_112 : decode cX9_best 112 = .ok (.goto 5, 3) := by decide +kernel
theorem dX9_best_115 : decode cX9_best 115 = .ok (.iload 5, 2) := by decide +kernel
theorem dX9_best_117 : decode cX9_best 117 = .ok (.ireturn, 1) := by decide +kernel
theorem dX9_enough_0 : decode cX9_enough 0 = .ok (.iload_n 1, 1) := by decide +kernel
theorem dX9_enough_1 : decode cX9_enough 1 = .ok (.invokestatic 185, 3) := by decide +kernel
theorem dX9_enough_4 : decode cX9_enough 4 = .ok (.ifCond .eq 13, 3) := by decide +kernel
theorem dX9_enough_7 : decode cX9_enough 7 = .ok (.iload_n 2, 1) := by decide +kernel
theorem dX9_enough_8 : decode cX9_enough 8 = .ok (.ifCond .lt 9, 3) := by decide +kernel
theorem dX9_enough_11 : decode cX9_enough 11 = .ok (.iload_n 2, 1) := by decide +kernel
theorem dX9_enough_12 : decode cX9_enough 12 = .ok (.bipush 99, 2) := by decide +kernel
theorem dX9_enough_14 : decode cX9_enough 14 = .ok (.if_icmp .le 5, 3) := by decide +kernel
theorem dX9_enough_17 : decode cX9_enough 17 = .ok (.iconst (-1), 1) := by decide +kernel
theorem dX9_enough_18 : decode cX9_enough 18 = .ok (.ireturn, 1) := by decide +kernel
theorem dX9_enough_19 : decode cX9_enough 19 = .ok (.aload_n 0, 1) := by decide +kernel
theorem dX9_enough_20 : decode cX9_enough 20 = .ok (.getfield 37, 3) := by decide +kernel
theorem dX9_enough_23 : decode cX9_enough 23 = .ok (.iload_n 1, 1) := by decide +kernel
theorem dX9_enough_24 : decode cX9_enough 24 = .ok (.invokevirtual 194, 3) := by decide +kernel
theorem dX9_enough_27 : decode cX9_enough 27 = .ok (.istore_n 3, 1) := by decide +kernel
theorem dX9_enough_28 : decode cX9_enough 28 = .ok (.bipush (-2), 2) := by decide +kernel
theorem dX9_enough_30 : decode cX9_enough 30 = .ok (.istore 4, 2) := by decide +kernel
theorem dX9_enough_32 : decode cX9_enough 32 = .ok (.bipush 11, 2) := by decide +kernel
theorem dX9_enough_34 : decode cX9_enough 34 = .ok (.istore 5, 2) := by decide +kernel
theorem dX9_enough_36 : decode cX9_enough 36 = .ok (.iconst 0, 1) := by decide +kernel
theorem dX9_enough_37 : decode cX9_enough 37 = .ok (.istore 6, 2) := by decide +kernel
theorem dX9_enough_39 : decode cX9_enough 39 = .ok (.iload 6, 2) := by decide +kernel
theorem dX9_enough_41 : decode cX9_enough 41 = .ok (.iconst 1, 1) := by decide +kernel
theorem dX9_enough_42 : decode cX9_enough 42 = .ok (.aload_n 0, 1) := by decide +kernel
theorem dX9_enough_43 : decode cX9_enough 43 = .ok (.getfield 28, 3) := by decide +kernel
theorem dX9_enough_46 : decode cX9_enough 46 = .ok (.getfield 132, 3) := by decide +kernel
theorem dX9_enough_49 : decode cX9_enough 49 = .ok (.ishl, 1) := by decide +kernel
theorem dX9_enough_50 : decode cX9_enough 50 = .ok (.if_icmp .ge 59, 3) := by decide +kernel
theorem dX9_enough_53 : decode cX9_enough 53 = .ok (.iload 6, 2) := by decide +kernel
theorem dX9_enough_55 : decode cX9_enough 55 = .ok (.iload_n 3, 1) := by decide +kernel
theorem dX9_enough_56 : decode cX9_enough 56 = .ok (.iand, 1) := by decide +kernel
theorem dX9_enough_57 : decode cX9_enough 57 = .ok (.iload 6, 2) := by decide +kernel
theorem dX9_enough_59 : decode cX9_enough 59 = .ok (.if_icmp .ne 44, 3) := by decide +kernel
theorem dX9_enough_62 : decode cX9_enough 62 = .ok (.iload 6, 2) := by decide +kernel
theorem dX9_enough_64 : decode cX9_enough 64 = .ok (.invokestatic 266, 3) := by decide +kernel
theorem dX9_enough_67 : decode cX9_enough 67 = .ok (.iload 5, 2) := by decide +kernel
theorem dX9_enough_69 : decode cX9_enough 69 = .ok (.if_icmp .ge 34, 3) := by decide +kernel
theorem dX9_enough_72 : decode cX9_enough 72 = .ok (.aload_n 0, 1) := by decide +kernel
theorem dX9_enough_73 : decode cX9_enough 73 = .ok (.getfield 28, 3) := by decide +kernel
theorem dX9_enough_76 : decode cX9_enough 76 = .ok (.aload_n 0, 1) := by decide +kernel
theorem dX9_enough_77 : decode cX9_enough 77 = .ok (.getfield 28, 3) := by decide +kernel
theorem dX9_enough_80 : decode cX9_enough 80 = .ok (.getfield 152, 3) := by decide +kernel
theorem dX9_enough_83 : decode cX9_enough 83 = .ok (.iload 6, 2) := by decide +kernel
theorem dX9_enough_85 : decode cX9_enough 85 = .ok (.invokevirtual 200, 3) := by decide +kernel
theorem dX9_enough_88 : decode cX9_enough 88 = .ok (.iload_n 2, 1) := by decide +kernel
theorem dX9_enough_89 : decode cX9_enough 89 = .ok (.if_icmp .lt 14, 3) := by decide +kernel
theorem dX9_enough_92 : decode cX9_enough 92 = .ok (.iload 6, 2) := by decide +kernel
theorem dX9_enough_94 : decode cX9_enough 94 = .ok (.istore 4, 2) := by decide +kernel
theorem dX9_enough_96 : decode cX9_enough 96 = .ok (.iload 6, 2) := by decide +kernel
theorem dX9_enough_98 : decode cX9_enough 98 = .ok (.invokestatic 266, 3) := by decide +kernel
theorem dX9_enough_101 : decode cX9_enough 101 = .ok (.istore 5, 2) := by decide +kernel
theorem dX9_enough_103 : decode cX9_enough 103 = .ok (.iinc 6 1, 3) := by decide +kernel
theorem dX9_enough_106 : decode cX9_enough 106 = .ok (.goto (-67), 3) := by decide +kernel
theorem dX9_enough_109 : decode cX9_enough 109 = .ok (.iload 4, 2) := by decide +kernel
theorem dX9_enough_111 : decode cX9_enough 111 = .ok (.ireturn, 1) := by decide +kernel
theorem dX9_nursing_0 : decode cX9_nursing 0 = .ok (.iload_n 1, 1) := by decide +kernel
theorem dX9_nursing_1 : decode cX9_nursing 1 = .ok (.invokestatic 185, 3) := by decide +kernel
theorem dX9_nursing_4 : decode cX9_nursing 4 = .ok (.ifCond .eq 23, 3) := by decide +kernel
theorem dX9_nursing_7 : decode cX9_nursing 7 = .ok (.iload_n 2, 1) := by decide +kernel
theorem dX9_nursing_8 : decode cX9_nursing 8 = .ok (.iconst 1, 1) := by decide +kernel
theorem dX9_nursing_9 : decode cX9_nursing 9 = .ok (.if_icmp .lt 18, 3) := by decide +kernel
theorem dX9_nursing_12 : decode cX9_nursing 12 = .ok (.iload_n 2, 1) := by decide +kernel
theorem dX9_nursing_13 : decode cX9_nursing 13 = .ok (.bipush 20, 2) := by decide +kernel
theorem dX9_nursing_15 : decode cX9_nursing 15 = .ok (.if_icmp .gt 12, 3) := by decide +kernel
theorem dX9_nursing_18 : decode cX9_nursing 18 = .ok (.iload_n 3, 1) := by decide +kernel
theorem dX9_nursing_19 : decode cX9_nursing 19 = .ok (.ifCond .lt 8, 3) := by decide +kernel
theorem dX9_nursing_22 : decode cX9_nursing 22 = .ok (.iload_n 3, 1) := by decide +kernel
theorem dX9_nursing_23 : decode cX9_nursing 23 = .ok (.iconst 4, 1) := by decide +kernel
theorem dX9_nursing_24 : decode cX9_nursing 24 = .ok (.if_icmp .le 5, 3) := by decide +kernel
theorem dX9_nursing_27 : decode cX9_nursing 27 = .ok (.iconst (-1), 1) := by decide +kernel
theorem dX9_nursing_28 : decode cX9_nursing 28 = .ok (.ireturn, 1) := by decide +kernel
theorem dX9_nursing_29 : decode cX9_nursing 29 = .ok (.aload_n 0, 1) := by decide +kernel
theorem dX9_nursing_30 : decode cX9_nursing 30 = .ok (.getfield 64, 3) := by decide +kernel
theorem dX9_nursing_33 : decode cX9_nursing 33 = .ok (.aload_n 0, 1) := by decide +kernel
theorem dX9_nursing_34 : decode cX9_nursing 34 = .ok (.getfield 37, 3) := by decide +kernel
theorem dX9_nursing_37 : decode cX9_nursing 37 = .ok (.aload_n 0, 1) := by decide +kernel
theorem dX9_nursing_38 : decode cX9_nursing 38 = .ok (.getfield 44, 3) := by decide +kernel
theorem dX9_nursing_41 : decode cX9_nursing 41 = .ok (.iload_n 1, 1) := by decide +kernel
theorem dX9_nursing_42 : decode cX9_nursing 42 = .ok (.iload_n 2, 1) := by decide +kernel
theorem dX9_nursing_43 : decode cX9_nursing 43 = .ok (.invokevirtual 271, 3) := by decide +kernel
theorem dX9_nursing_46 : decode cX9_nursing 46 = .ok (.iload_n 3, 1) := by decide +kernel
theorem dX9_nursing_47 : decode cX9_nursing 47 = .ok (.iconst 4, 1) := by decide +kernel
theorem dX9_nursing_48 : decode cX9_nursing 48 = .ok (.if_icmp .ne 11, 3) := by decide +kernel
theorem dX9_nursing_51 : decode cX9_nursing 51 = .ok (.aload_n 0, 1) := by decide +kernel
theorem dX9_nursing_52 : decode cX9_nursing 52 = .ok (.getfield 64, 3) := by decide +kernel
theorem dX9_nursing_55 : decode cX9_nursing 55 = .ok (.getfield 275, 3) := by decide +kernel
theorem dX9_nursing_58 : decode cX9_nursing 58 = .ok (.ireturn, 1) := by decide +kernel
theorem dX9_nursing_59 : decode cX9_nursing 59 = .ok (.iload_n 3, 1) := by decide +kernel
theorem dX9_nursing_60 : decode cX9_nursing 60 = .ok (.aload_n 0, 1) := by decide +kernel
theorem dX9_nursing_61 : decode cX9_nursing 61 = .ok (.getfield 64, 3) := by decide +kernel
theorem dX9_nursing_64 : decode cX9_nursing 64 = .ok (.getfield 278, 3) := by decide +kernel
theorem dX9_nursing_67 : decode cX9_nursing 67 = .ok (.if_icmp .ge 15, 3) := by decide +kernel
theorem dX9_nursing_70 : decode cX9_nursing 70 = .ok (.aload_n 0, 1) := by decide +kernel
theorem dX9_nursing_71 : decode cX9_nursing 71 = .ok (.getfield 64, 3) := by decide +kernel
theorem dX9_nursing_74 : decode cX9_nursing 74 = .ok (.getfield 279, 3) := by decide +kernel
theorem dX9_nursing_77 : decode cX9_nursing 77 = .ok (.iload_n 3, 1) := by decide +kernel
theorem dX9_nursing_78 : decode cX9_nursing 78 = .ok (.iaload, 1) := by decide +kernel
theorem dX9_nursing_79 : decode cX9_nursing 79 = .ok (.goto 5, 3) := by decide +kernel
theorem dX9_nursing_82 : decode cX9_nursing 82 = .ok (.bipush (-2), 2) := by decide +kernel
theorem dX9_nursing_84 : decode cX9_nursing 84 = .ok (.ireturn, 1) := by decide +kernel
theorem dX9_rests_0 : decode cX9_rests 0 = .ok (.iconst 0, 1) := by decide +kernel
theorem dX9_rests_1 : decode cX9_rests 1 = .ok (.istore_n 1, 1) := by decide +kernel
theorem dX9_rests_2 : decode cX9_rests 2 = .ok (.iconst 0, 1) := by decide +kernel
theorem dX9_rests_3 : decode cX9_rests 3 = .ok (.istore_n 2, 1) := by decide +kernel
theorem dX9_rests_4 : decode cX9_rests 4 = .ok (.iload_n 2, 1) := by decide +kernel
theorem dX9_rests_5 : decode cX9_rests 5 = .ok (.iconst 4, 1) := by decide +kernel
theorem dX9_rests_6 : decode cX9_rests 6 = .ok (.if_icmp .ge 25, 3) := by decide +kernel
theorem dX9_rests_9 : decode cX9_rests 9 = .ok (.aload_n 0, 1) := by decide +kernel
theorem dX9_rests_10 : decode cX9_rests 10 = .ok (.iload_n 2, 1) := by decide +kernel
theorem dX9_rests_11 : decode cX9_rests 11 = .ok (.iconst 1, 1) := by decide +kernel
theorem dX9_rests_12 : decode cX9_rests 12 = .ok (.ishr, 1) := by decide +kernel
theorem dX9_rests_13 : decode cX9_rests 13 = .ok (.iload_n 2, 1) := by decide +kernel
theorem dX9_rests_14 : decode cX9_rests 14 = .ok (.iconst 1, 1) := by decide +kernel
theorem dX9_rests_15 : decode cX9_rests 15 = .ok (.iand, 1) := by decide +kernel
theorem dX9_rests_16 : decode cX9_rests 16 = .ok (.invokevirtual 282, 3) := by decide +kernel
theorem dX9_rests_19 : decode cX9_rests 19 = .ok (.ifCond .eq 6, 3) := by decide +kernel
theorem dX9_rests_22 : decode cX9_rests 22 = .ok (.iinc 1 1, 3) := by decide +kernel
theorem dX9_rests_25 : decode cX9_rests 25 = .ok (.iinc 2 1, 3) := by decide +kernel
theorem dX9_rests_28 : decode cX9_rests 28 = .ok (.goto (-24), 3) := by decide +kernel
theorem dX9_rests_31 : decode cX9_rests 31 = .ok (.iload_n 1, 1) := by decide +kernel
theorem dX9_rests_32 : decode cX9_rests 32 = .ok (.ireturn, 1) := by decide +kernel
theorem dX9_rest_0 : decode cX9_rest 0 = .ok (.iload_n 1, 1) := by decide +kernel
theorem dX9_rest_1 : decode cX9_rest 1 = .ok (.ifCond .ge 5, 3) := by decide +kernel
theorem dX9_rest_4 : decode cX9_rest 4 = .ok (.iconst (-1), 1) := by decide +kernel
theorem dX9_rest_5 : decode cX9_rest 5 = .ok (.ireturn, 1) := by decide +kernel
theorem dX9_rest_6 : decode cX9_rest 6 = .ok (.iload_n 1, 1) := by decide +kernel
theorem dX9_rest_7 : decode cX9_rest 7 = .ok (.istore_n 2, 1) := by decide +kernel
theorem dX9_rest_8 : decode cX9_rest 8 = .ok (.iconst 0, 1) := by decide +kernel
theorem dX9_rest_9 : decode cX9_rest 9 = .ok (.istore_n 3, 1) := by decide +kernel
theorem dX9_rest_10 : decode cX9_rest 10 = .ok (.iload_n 3, 1) := by decide +kernel
theorem dX9_rest_11 : decode cX9_rest 11 = .ok (.iconst 4, 1) := by decide +kernel
theorem dX9_rest_12 : decode cX9_rest 12 = .ok (.if_icmp .ge 40, 3) := by decide +kernel
theorem dX9_rest_15 : decode cX9_rest 15 = .ok (.aload_n 0, 1) := by decide +kernel
theorem dX9_rest_16 : decode cX9_rest 16 = .ok (.iload_n 3, 1) := by decide +kernel
theorem dX9_rest_17 : decode cX9_rest 17 = .ok (.iconst 1, 1) := by decide +kernel
theorem dX9_rest_18 : decode cX9_rest 18 = .ok (.ishr, 1) := by decide +kernel
theorem dX9_rest_19 : decode cX9_rest 19 = .ok (.iload_n 3, 1) := by decide +kernel
theorem dX9_rest_20 : decode cX9_rest 20 = .ok (.iconst 1, 1) := by decide +kernel
theorem dX9_rest_21 : decode cX9_rest 21 = .ok (.iand, 1) := by decide +kernel
theorem dX9_rest_22 : decode cX9_rest 22 = .ok (.invokevirtual 282, 3) := by decide +kernel
theorem dX9_rest_25 : decode cX9_rest 25 = .ok (.ifCond .eq 21, 3) := by decide +kernel
theorem dX9_rest_28 : decode cX9_rest 28 = .ok (.iload_n 2, 1) := by decide +kernel
theorem dX9_rest_29 : decode cX9_rest 29 = .ok (.ifCond .ne 14, 3) := by decide +kernel
theorem dX9_rest_32 : decode cX9_rest 32 = .ok (.bipush 10, 2) := by decide +kernel
theorem dX9_rest_34 : decode cX9_rest 34 = .ok (.iload_n 3, 1) := by decide +kernel
theorem dX9_rest_35 : decode cX9_rest 35 = .ok (.iconst 1, 1) := by decide +kernel
theorem dX9_rest_36 : decode cX9_rest 36 = .ok (.ishr, 1) := by decide +kernel
theorem dX9_rest_37 : decode cX9_rest 37 = .ok (.imul, 1) := by decide +kernel
theorem dX9_rest_38 : decode cX9_rest 38 = .ok (.iload_n 3, 1) := by decide +kernel
theorem dX9_rest_39 : decode cX9_rest 39 = .ok (.iconst 1, 1) := by decide +kernel
theorem dX9_rest_40 : decode cX9_rest 40 = .ok (.iand, 1) := by decide +kernel
theorem dX9_rest_41 : decode cX9_rest 41 = .ok (.iadd, 1) := by decide +kernel
theorem dX9_rest_42 : decode cX9_rest 42 = .ok (.ireturn, 1) := by decide +kernel
theorem dX9_rest_43 : decode cX9_rest 43 = .ok (.iinc 2 (-1), 3) := by decide +kernel
theorem dX9_rest_46 : decode cX9_rest 46 = .ok (.iinc 3 1, 3) := by decide +kernel
theorem dX9_rest_49 : decode cX9_rest 49 = .ok (.goto (-39), 3) := by decide +kernel
theorem dX9_rest_52 : decode cX9_rest 52 = .ok (.bipush (-2), 2) := by decide +kernel
theorem dX9_rest_54 : decode cX9_rest 54 = .ok (.ireturn, 1) := by decide +kernel
theorem dX9_whole_0 : decode cX9_whole 0 = .ok (.aload_n 0, 1) := by decide +kernel
theorem dX9_whole_1 : decode cX9_whole 1 = .ok (.iload_n 1, 1) := by decide +kernel
theorem dX9_whole_2 : decode cX9_whole 2 = .ok (.invokevirtual 204, 3) := by decide +kernel
theorem dX9_whole_5 : decode cX9_whole 5 = .ok (.ifCond .eq 22, 3) := by decide +kernel
theorem dX9_whole_8 : decode cX9_whole 8 = .ok (.iload_n 2, 1) := by decide +kernel
theorem dX9_whole_9 : decode cX9_whole 9 = .ok (.ifCond .lt 18, 3) := by decide +kernel
theorem dX9_whole_12 : decode cX9_whole 12 = .ok (.iload_n 2, 1) := by decide +kernel
theorem dX9_whole_13 : decode cX9_whole 13 = .ok (.bipush 6, 2) := by decide +kernel
theorem dX9_whole_15 : decode cX9_whole 15 = .ok (.if_icmp .gt 12, 3) := by decide +kernel
theorem dX9_whole_18 : decode cX9_whole 18 = .ok (.iload_n 3, 1) := by decide +kernel
theorem dX9_whole_19 : decode cX9_whole 19 = .ok (.ifCond .lt 8, 3) := by decide +kernel
theorem dX9_whole_22 : decode cX9_whole 22 = .ok (.iload_n 3, 1) := by decide +kernel
theorem dX9_whole_23 : decode cX9_whole 23 = .ok (.iconst 1, 1) := by decide +kernel
theorem dX9_whole_24 : decode cX9_whole 24 = .ok (.if_icmp .le 7, 3) := by decide +kernel
theorem dX9_whole_27 : decode cX9_whole 27 = .ok (.ldc2_w 286, 3) := by decide +kernel
theorem dX9_whole_30 : decode cX9_whole 30 = .ok (.lreturn, 1) := by decide +kernel
theorem dX9_whole_31 : decode cX9_whole 31 = .ok (.bipush 100, 2) := by decide +kernel
theorem dX9_whole_33 : decode cX9_whole 33 = .ok (.aload_n 0, 1) := by decide +kernel
theorem dX9_whole_34 : decode cX9_whole 34 = .ok (.getfield 37, 3) := by decide +kernel
theorem dX9_whole_37 : decode cX9_whole 37 = .ok (.iload_n 1, 1) := by decide +kernel
theorem dX9_whole_38 : decode cX9_whole 38 = .ok (.aload_n 0, 1) := by decide +kernel
theorem dX9_whole_39 : decode cX9_whole 39 = .ok (.getfield 37, 3) := by decide +kernel
theorem dX9_whole_42 : decode cX9_whole 42 = .ok (.iload_n 1, 1) := by decide +kernel
theorem dX9_whole_43 : decode cX9_whole 43 = .ok (.invokevirtual 207, 3) := by decide +kernel
theorem dX9_whole_46 : decode cX9_whole 46 = .ok (.invokevirtual 210, 3) := by decide +kernel
theorem dX9_whole_49 : decode cX9_whole 49 = .ok (.isub, 1) := by decide +kernel
theorem dX9_whole_50 : decode cX9_whole 50 = .ok (.istore 4, 2) := by decide +kernel
theorem dX9_whole_52 : decode cX9_whole 52 = .ok (.iload 4, 2) := by decide +kernel
theorem dX9_whole_54 : decode cX9_whole 54 = .ok (.invokestatic 288, 3) := by decide +kernel
theorem dX9_whole_57 : decode cX9_whole 57 = .ok (.istore 5, 2) := by decide +kernel
theorem dX9_whole_59 : decode cX9_whole 59 = .ok (.iload_n 3, 1) := by decide +kernel
theorem dX9_whole_60 : decode cX9_whole 60 = .ok (.ifCond .ne 8, 3) := by decide +kernel
theorem dX9_whole_63 : decode cX9_whole 63 = .ok (.iload 4, 2) := by decide +kernel
theorem dX9_whole_65 : decode cX9_whole 65 = .ok (.goto 5, 3) := by decide +kernel
theorem dX9_whole_68 : decode cX9_whole 68 = .ok (.bipush 100, 2) := by decide +kernel
theorem dX9_whole_70 : decode cX9_whole 70 = .ok (.iload 5, 2) := by decide +kernel
theorem dX9_whole_72 : decode cX9_whole 72 = .ok (.idiv, 1) := by decide +kernel
theorem dX9_whole_73 : decode cX9_whole 73 = .ok (.istore 6, 2) := by decide +kernel
theorem dX9_whole_75 : decode cX9_whole 75 = .ok (.lconst 1, 1) := by decide +kernel
theorem dX9_whole_76 : decode cX9_whole 76 = .ok (.lstore 7, 2) := by decide +kernel
theorem dX9_whole_78 : decode cX9_whole 78 = .ok (.iconst 0, 1) := by decide +kernel
theorem dX9_whole_79 : decode cX9_whole 79 = .ok (.istore 9, 2) := by decide +kernel
theorem dX9_whole_81 : decode cX9_whole 81 = .ok (.iload 9, 2) := by decide +kernel
theorem dX9_whole_83 : decode cX9_whole 83 = .ok (.iload_n 2, 1) := by decide +kernel
theorem dX9_whole_84 : decode cX9_whole 84 = .ok (.if_icmp .ge 17, 3) := by decide +kernel
theorem dX9_whole_87 : decode cX9_whole 87 = .ok (.lload 7, 2) := by decide +kernel
theorem dX9_whole_89 : decode cX9_whole 89 = .ok (.iload 6, 2) := by decide +kernel
theorem dX9_whole_91 : decode cX9_whole 91 = .ok (.i2l, 1) := by decide +kernel
theorem dX9_whole_92 : decode cX9_whole 92 = .ok (.lmul, 1) := by decide +kernel
theorem dX9_whole_93 : decode cX9_whole 93 = .ok (.lstore 7, 2) := by decide +kernel
theorem dX9_whole_95 : decode cX9_whole 95 = .ok (.iinc 9 1, 3) := by decide +kernel
theorem dX9_whole_98 : decode cX9_whole 98 = .ok (.goto (-17), 3) := by decide +kernel
theorem dX9_whole_101 : decode cX9_whole 101 = .ok (.lload 7, 2) := by decide +kernel
theorem dX9_whole_103 : decode cX9_whole 103 = .ok (.lreturn, 1) := by decide +kernel
theorem dX9_lists_0 : decode cX9_lists 0 = .ok (.iload_n 1, 1) := by decide +kernel
theorem dX9_lists_1 : decode cX9_lists 1 = .ok (.invokestatic 185, 3) := by decide +kernel
theorem dX9_lists_4 : decode cX9_lists 4 = .ok (.ifCond .eq 25, 3) := by decide +kernel
theorem dX9_lists_7 : decode cX9_lists 7 = .ok (.iload_n 2, 1) := by decide +kernel
theorem dX9_lists_8 : decode cX9_lists 8 = .ok (.iconst 1, 1) := by decide +kernel
theorem dX9_lists_9 : decode cX9_lists 9 = .ok (.if_icmp .lt 20, 3) := by decide +kernel
theorem dX9_lists_12 : decode cX9_lists 12 = .ok (.iload_n 2, 1) := by decide +kernel
theorem dX9_lists_13 : decode cX9_lists 13 = .ok (.bipush 9, 2) := by decide +kernel
theorem dX9_lists_15 : decode cX9_lists 15 = .ok (.if_icmp .gt 14, 3) := by decide +kernel
theorem dX9_lists_18 : decode cX9_lists 18 = .ok (.iload_n 3, 1) := by decide +kernel
theorem dX9_lists_19 : decode cX9_lists 19 = .ok (.iconst 1, 1) := by decide +kernel
theorem dX9_lists_20 : decode cX9_lists 20 = .ok (.if_icmp .lt 9, 3) := by decide +kernel
theorem dX9_lists_23 : decode cX9_lists 23 = .ok (.iload_n 3, 1) := by decide +kernel
theorem dX9_lists_24 : decode cX9_lists 24 = .ok (.bipush 9, 2) := by decide +kernel
theorem dX9_lists_26 : decode cX9_lists 26 = .ok (.if_icmp .le 5, 3) := by decide +kernel
theorem dX9_lists_29 : decode cX9_lists 29 = .ok (.iconst (-1), 1) := by decide +kernel
theorem dX9_lists_30 : decode cX9_lists 30 = .ok (.ireturn, 1) := by decide +kernel
theorem dX9_lists_31 : decode cX9_lists 31 = .ok (.iload_n 2, 1) := by decide +kernel
theorem dX9_lists_32 : decode cX9_lists 32 = .ok (.iload_n 3, 1) := by decide +kernel
theorem dX9_lists_33 : decode cX9_lists 33 = .ok (.imul, 1) := by decide +kernel
theorem dX9_lists_34 : decode cX9_lists 34 = .ok (.istore 4, 2) := by decide +kernel
theorem dX9_lists_36 : decode cX9_lists 36 = .ok (.aload_n 0, 1) := by decide +kernel
theorem dX9_lists_37 : decode cX9_lists 37 = .ok (.getfield 37, 3) := by decide +kernel
theorem dX9_lists_40 : decode cX9_lists 40 = .ok (.iload_n 1, 1) := by decide +kernel
theorem dX9_lists_41 : decode cX9_lists 41 = .ok (.invokevirtual 197, 3) := by decide +kernel
theorem dX9_lists_44 : decode cX9_lists 44 = .ok (.invokestatic 266, 3) := by decide +kernel
theorem dX9_lists_47 : decode cX9_lists 47 = .ok (.iload 4, 2) := by decide +kernel
theorem dX9_lists_49 : decode cX9_lists 49 = .ok (.iadd, 1) := by decide +kernel
theorem dX9_lists_50 : decode cX9_lists 50 = .ok (.iconst 1, 1) := by decide +kernel
theorem dX9_lists_51 : decode cX9_lists 51 = .ok (.isub, 1) := by decide +kernel
theorem dX9_lists_52 : decode cX9_lists 52 = .ok (.iload 4, 2) := by decide +kernel
theorem dX9_lists_54 : decode cX9_lists 54 = .ok (.idiv, 1) := by decide +kernel
theorem dX9_lists_55 : decode cX9_lists 55 = .ok (.ireturn, 1) := by decide +kernel
theorem dX9_stays_0 : decode cX9_stays 0 = .ok (.iconst 0, 1) := by decide +kernel
theorem dX9_stays_1 : decode cX9_stays 1 = .ok (.istore_n 1, 1) := by decide +kernel
theorem dX9_stays_2 : decode cX9_stays 2 = .ok (.iconst 0, 1) := by decide +kernel
theorem dX9_stays_3 : decode cX9_stays 3 = .ok (.istore_n 2, 1) := by decide +kernel
theorem dX9_stays_4 : decode cX9_stays 4 = .ok (.iload_n 2, 1) := by decide +kernel
theorem dX9_stays_5 : decode cX9_stays 5 = .ok (.aload_n 0, 1) := by decide +kernel
theorem dX9_stays_6 : decode cX9_stays 6 = .ok (.getfield 28, 3) := by decide +kernel
theorem dX9_stays_9 : decode cX9_stays 9 = .ok (.getfield 132, 3) := by decide +kernel
theorem dX9_stays_12 : decode cX9_stays 12 = .ok (.if_icmp .ge 47, 3) := by decide +kernel
theorem dX9_stays_15 : decode cX9_stays 15 = .ok (.aload_n 0, 1) := by decide +kernel
theorem dX9_stays_16 : decode cX9_stays 16 = .ok (.getfield 37, 3) := by decide +kernel
theorem dX9_stays_19 : decode cX9_stays 19 = .ok (.iload_n 2, 1) := by decide +kernel
theorem dX9_stays_20 : decode cX9_stays 20 = .ok (.invokevirtual 164, 3) := by decide +kernel
theorem dX9_stays_23 : decode cX9_stays 23 = .ok (.ifCond .eq 30, 3) := by decide +kernel
theorem dX9_stays_26 : decode cX9_stays 26 = .ok (.aload_n 0, 1) := by decide +kernel
theorem dX9_stays_27 : decode cX9_stays 27 = .ok (.getfield 37, 3) := by decide +kernel
theorem dX9_stays_30 : decode cX9_stays 30 = .ok (.getfield 161, 3) := by decide +kernel
theorem dX9_stays_33 : decode cX9_stays 33 = .ok (.iload_n 2, 1) := by decide +kernel
theorem dX9_stays_34 : decode cX9_stays 34 = .ok (.iaload, 1) := by decide +kernel
theorem dX9_stays_35 : decode cX9_stays 35 = .ok (.aload_n 0, 1) := by decide +kernel
theorem dX9_stays_36 : decode cX9_stays 36 = .ok (.getfield 28, 3) := by decide +kernel
theorem dX9_stays_39 : decode cX9_stays 39 = .ok (.getfield 152, 3) := by decide +kernel
theorem dX9_stays_42 : decode cX9_stays 42 = .ok (.iload_n 2, 1) := by decide +kernel
theorem dX9_stays_43 : decode cX9_stays 43 = .ok (.iaload, 1) := by decide +kernel
theorem dX9_stays_44 : decode cX9_stays 44 = .ok (.if_icmp .le 9, 3) := by decide +kernel
theorem dX9_stays_47 : decode cX9_stays 47 = .ok (.iload_n 1, 1) := by decide +kernel
theorem dX9_stays_48 : decode cX9_stays 48 = .ok (.iconst 1, 1) := by decide +kernel
theorem dX9_stays_49 : decode cX9_stays 49 = .ok (.iload_n 2, 1) := by decide +kernel
theorem dX9_stays_50 : decode cX9_stays 50 = .ok (.ishl, 1) := by decide +kernel
theorem dX9_stays_51 : decode cX9_stays 51 = .ok (.ior, 1) := by decide +kernel
theorem dX9_stays_52 : decode cX9_stays 52 = .ok (.istore_n 1, 1) := by decide +kernel
theorem dX9_stays_53 : decode cX9_stays 53 = .ok (.iinc 2 1, 3) := by decide +kernel
theorem dX9_stays_56 : decode cX9_stays 56 = .ok (.goto (-52), 3) := by decide +kernel
theorem dX9_stays_59 : decode cX9_stays 59 = .ok (.iload_n 1, 1) := by decide +kernel
theorem dX9_stays_60 : decode cX9_stays 60 = .ok (.ireturn, 1) := by decide +kernel
theorem dX9_worst_0 : decode cX9_worst 0 = .ok (.bipush (-2), 2) := by decide +kernel
theorem dX9_worst_2 : decode cX9_worst 2 = .ok (.istore_n 1, 1) := by decide +kernel
theorem dX9_worst_3 : decode cX9_worst 3 = .ok (.iconst 0, 1) := by decide +kernel
theorem dX9_worst_4 : decode cX9_worst 4 = .ok (.istore_n 2, 1) := by decide +kernel
theorem dX9_worst_5 : decode cX9_worst 5 = .ok (.iconst 0, 1) := by decide +kernel
theorem dX9_worst_6 : decode cX9_worst 6 = .ok (.istore_n 3, 1) := by decide +kernel
theorem dX9_worst_7 : decode cX9_worst 7 = .ok (.iload_n 3, 1) := by decide +kernel
theorem dX9_worst_8 : decode cX9_worst 8 = .ok (.aload_n 0, 1) := by decide +kernel
theorem dX9_worst_9 : decode cX9_worst 9 = .ok (.getfield 28, 3) := by decide +kernel
theorem dX9_worst_12 : decode cX9_worst 12 = .ok (.getfield 132, 3) := by decide +kernel
theorem dX9_worst_15 : decode cX9_worst 15 = .ok (.if_icmp .ge 45, 3) := by decide +kernel
theorem dX9_worst_18 : decode cX9_worst 18 = .ok (.aload_n 0, 1) := by decide +kernel
theorem dX9_worst_19 : decode cX9_worst 19 = .ok (.getfield 37, 3) := by decide +kernel
theorem dX9_worst_22 : decode cX9_worst 22 = .ok (.iload_n 3, 1) := by decide +kernel
theorem dX9_worst_23 : decode cX9_worst 23 = .ok (.invokevirtual 164, 3) := by decide +kernel
theorem dX9_worst_26 : decode cX9_worst 26 = .ok (.ifCond .eq 28, 3) := by decide +kernel
theorem dX9_worst_29 : decode cX9_worst 29 = .ok (.aload_n 0, 1) := by decide +kernel
theorem dX9_worst_30 : decode cX9_worst 30 = .ok (.getfield 37, 3) := by decide +kernel
theorem dX9_worst_33 : decode cX9_worst 33 = .ok (.getfield 158, 3) := by decide +kernel
theorem dX9_worst_36 : decode cX9_worst 36 = .ok (.iload_n 3, 1) := by decide +kernel
theorem dX9_worst_37 : decode cX9_worst 37 = .ok (.iaload, 1) := by decide +kernel
theorem dX9_worst_38 : decode cX9_worst 38 = .ok (.iload_n 2, 1) := by decide +kernel
theorem dX9_worst_39 : decode cX9_worst 39 = .ok (.if_icmp .le 15, 3) := by decide +kernel
theorem dX9_worst_42 : decode cX9_worst 42 = .ok (.iload_n 3, 1) := by decide +kernel
theorem dX9_worst_43 : decode cX9_worst 43 = .ok (.istore_n 1, 1) := by decide +kernel
theorem dX9_worst_44 : decode cX9_worst 44 = .ok (.aload_n 0, 1) := by decide +kernel
theorem dX9_worst_45 : decode cX9_worst 45 = .ok (.getfield 37, 3) := by decide +kernel
theorem dX9_worst_48 : decode cX9_worst 48 = .ok (.getfield 158, 3) := by decide +kernel
theorem dX9_worst_51 : decode cX9_worst 51 = .ok (.iload_n 3, 1) := by decide +kernel
theorem dX9_worst_52 : decode cX9_worst 52 = .ok (.iaload, 1) := by decide +kernel
theorem dX9_worst_53 : decode cX9_worst 53 = .ok (.istore_n 2, 1) := by decide +kernel
theorem dX9_worst_54 : decode cX9_worst 54 = .ok (.iinc 3 1, 3) := by decide +kernel
theorem dX9_worst_57 : decode cX9_worst 57 = .ok (.goto (-50), 3) := by decide +kernel
theorem dX9_worst_60 : decode cX9_worst 60 = .ok (.iload_n 1, 1) := by decide +kernel
theorem dX9_worst_61 : decode cX9_worst 61 = .ok (.ireturn, 1) := by decide +kernel
theorem dX9_until_0 : decode cX9_until 0 = .ok (.aload_n 0, 1) := by decide +kernel
theorem dX9_until_1 : decode cX9_until 1 = .ok (.iload_n 1, 1) := by decide +kernel
theorem dX9_until_2 : decode cX9_until 2 = .ok (.invokevirtual 135, 3) := by decide +kernel
theorem dX9_until_5 : decode cX9_until 5 = .ok (.ifCond .eq 13, 3) := by decide +kernel
theorem dX9_until_8 : decode cX9_until 8 = .ok (.iload_n 2, 1) := by decide +kernel
theorem dX9_until_9 : decode cX9_until 9 = .ok (.ifCond .lt 9, 3) := by decide +kernel
theorem dX9_until_12 : decode cX9_until 12 = .ok (.iload_n 2, 1) := by decide +kernel
theorem dX9_until_13 : decode cX9_until 13 = .ok (.bipush 9, 2) := by decide +kernel
theorem dX9_until_15 : decode cX9_until 15 = .ok (.if_icmp .le 5, 3) := by decide +kernel
theorem dX9_until_18 : decode cX9_until 18 = .ok (.iconst (-1), 1) := by decide +kernel
theorem dX9_until_19 : decode cX9_until 19 = .ok (.ireturn, 1) := by decide +kernel
theorem dX9_until_20 : decode cX9_until 20 = .ok (.aload_n 0, 1) := by decide +kernel
theorem dX9_until_21 : decode cX9_until 21 = .ok (.getfield 44, 3) := by decide +kernel
theorem dX9_until_24 : decode cX9_until 24 = .ok (.aload_n 0, 1) := by decide +kernel
theorem dX9_until_25 : decode cX9_until 25 = .ok (.getfield 37, 3) := by decide +kernel
theorem dX9_until_28 : decode cX9_until 28 = .ok (.invokevirtual 256, 3) := by decide +kernel
theorem dX9_until_31 : decode cX9_until 31 = .ok (.iconst 0, 1) := by decide +kernel
theorem dX9_until_32 : decode cX9_until 32 = .ok (.istore_n 3, 1) := by decide +kernel
theorem dX9_until_33 : decode cX9_until 33 = .ok (.iload_n 3, 1) := by decide +kernel
theorem dX9_until_34 : decode cX9_until 34 = .ok (.bipush 99, 2) := by decide +kernel
theorem dX9_until_36 : decode cX9_until 36 = .ok (.if_icmp .gt 33, 3) := by decide +kernel
theorem dX9_until_39 : decode cX9_until 39 = .ok (.aload_n 0, 1) := by decide +kernel
theorem dX9_until_40 : decode cX9_until 40 = .ok (.getfield 44, 3) := by decide +kernel
theorem dX9_until_43 : decode cX9_until 43 = .ok (.getfield 158, 3) := by decide +kernel
theorem dX9_until_46 : decode cX9_until 46 = .ok (.iload_n 1, 1) := by decide +kernel
theorem dX9_until_47 : decode cX9_until 47 = .ok (.iaload, 1) := by decide +kernel
theorem dX9_until_48 : decode cX9_until 48 = .ok (.iload_n 2, 1) := by decide +kernel
theorem dX9_until_49 : decode cX9_until 49 = .ok (.if_icmp .lt 5, 3) := by decide +kernel
theorem dX9_until_52 : decode cX9_until 52 = .ok (.iload_n 3, 1) := by decide +kernel
theorem dX9_until_53 : decode cX9_until 53 = .ok (.ireturn, 1) := by decide +kernel
theorem dX9_until_54 : decode cX9_until 54 = .ok (.aload_n 0, 1) := by decide +kernel
theorem dX9_until_55 : decode cX9_until 55 = .ok (.getfield 44, 3) := by decide +kernel
theorem dX9_until_58 : decode cX9_until 58 = .ok (.iconst 1, 1) := by decide +kernel
theorem dX9_until_59 : decode cX9_until 59 = .ok (.iconst 0, 1) := by decide +kernel
theorem dX9_until_60 : decode cX9_until 60 = .ok (.invokevirtual 245, 3) := by decide +kernel
theorem dX9_until_63 : decode cX9_until 63 = .ok (.iinc 3 1, 3) := by decide +kernel
theorem dX9_until_66 : decode cX9_until 66 = .ok (.goto (-33), 3) := by decide +kernel
theorem dX9_until_69 : decode cX9_until 69 = .ok (.bipush (-2), 2) := by decide +kernel
theorem dX9_until_71 : decode cX9_until 71 = .ok (.ireturn, 1) := by decide +kernel
theorem dX9_safest_0 : decode cX9_safest 0 = .ok (.aload_n 0, 1) := by decide +kernel
theorem dX9_safest_1 : decode cX9_safest 1 = .ok (.iload_n 1, 1) := by decide +kernel
theorem dX9_safest_2 : decode cX9_safest 2 = .ok (.invokevirtual 204, 3) := by decide +kernel
theorem dX9_safest_5 : decode cX9_safest 5 = .ok (.ifCond .ne 5, 3) := by decide +kernel
theorem dX9_safest_8 : decode cX9_safest 8 = .ok (.iconst (-1), 1) := by decide +kernel
theorem dX9_safest_9 : decode cX9_safest 9 = .ok (.ireturn, 1) := by decide +kernel
theorem dX9_safest_10 : decode cX9_safest 10 = .ok (.iconst (-1), 1) := by decide +kernel
theorem dX9_safest_11 : decode cX9_safest 11 = .ok (.istore_n 2, 1) := by decide +kernel
theorem dX9_safest_12 : decode cX9_safest 12 = .ok (.bipush 101, 2) := by decide +kernel
theorem dX9_safest_14 : decode cX9_safest 14 = .ok (.istore_n 3, 1) := by decide +kernel
theorem dX9_safest_15 : decode cX9_safest 15 = .ok (.iconst 0, 1) := by decide +kernel
theorem dX9_safest_16 : decode cX9_safest 16 = .ok (.istore 4, 2) := by decide +kernel
theorem dX9_safest_18 : decode cX9_safest 18 = .ok (.iload 4, 2) := by decide +kernel
theorem dX9_safest_20 : decode cX9_safest 20 = .ok (.aload_n 0, 1) := by decide +kernel
theorem dX9_safest_21 : decode cX9_safest 21 = .ok (.getfield 28, 3) := by decide +kernel
theorem dX9_safest_24 : decode cX9_safest 24 = .ok (.getfield 122, 3) := by decide +kernel
theorem dX9_safest_27 : decode cX9_safest 27 = .ok (.if_icmp .ge 63, 3) := by decide +kernel
theorem dX9_safest_30 : decode cX9_safest 30 = .ok (.aload_n 0, 1) := by decide +kernel
theorem dX9_safest_31 : decode cX9_safest 31 = .ok (.getfield 28, 3) := by decide +kernel
theorem dX9_safest_34 : decode cX9_safest 34 = .ok (.getfield 175, 3) := by decide +kernel
theorem dX9_safest_37 : decode cX9_safest 37 = .ok (.iload 4, 2) := by decide +kernel
theorem dX9_safest_39 : decode cX9_safest 39 = .ok (.iaload, 1) := by decide +kernel
theorem dX9_safest_40 : decode cX9_safest 40 = .ok (.aload_n 0, 1) := by decide +kernel
theorem dX9_safest_41 : decode cX9_safest 41 = .ok (.getfield 28, 3) := by decide +kernel
theorem dX9_safest_44 : decode cX9_safest 44 = .ok (.getfield 149, 3) := by decide +kernel
theorem dX9_safest_47 : decode cX9_safest 47 = .ok (.iload_n 1, 1) := by decide +kernel
theorem dX9_safest_48 : decode cX9_safest 48 = .ok (.iaload, 1) := by decide +kernel
theorem dX9_safest_49 : decode cX9_safest 49 = .ok (.if_icmp .eq 35, 3) := by decide +kernel
theorem dX9_safest_52 : decode cX9_safest 52 = .ok (.aload_n 0, 1) := by decide +kernel
theorem dX9_safest_53 : decode cX9_safest 53 = .ok (.getfield 37, 3) := by decide +kernel
theorem dX9_safest_56 : decode cX9_safest 56 = .ok (.iload_n 1, 1) := by decide +kernel
theorem dX9_safest_57 : decode cX9_safest 57 = .ok (.aload_n 0, 1) := by decide +kernel
theorem dX9_safest_58 : decode cX9_safest 58 = .ok (.getfield 28, 3) := by decide +kernel
theorem dX9_safest_61 : decode cX9_safest 61 = .ok (.getfield 178, 3) := by decide +kernel
theorem dX9_safest_64 : decode cX9_safest 64 = .ok (.iload 4, 2) := by decide +kernel
theorem dX9_safest_66 : decode cX9_safest 66 = .ok (.iaload, 1) := by decide +kernel
theorem dX9_safest_67 : decode cX9_safest 67 = .ok (.invokevirtual 210, 3) := by decide +kernel
theorem dX9_safest_70 : decode cX9_safest 70 = .ok (.istore 5, 2) := by decide +kernel
theorem dX9_safest_72 : decode cX9_safest 72 = .ok (.iload 5, 2) := by decide +kernel
theorem dX9_safest_74 : decode cX9_safest 74 = .ok (.iload_n 3, 1) := by decide +kernel
theorem dX9_safest_75 : decode cX9_safest 75 = .ok (.if_icmp .ge 9, 3) := by decide +kernel
theorem dX9_safest_78 : decode cX9_safest 78 = .ok (.iload 5, 2) := by decide +kernel
theorem dX9_safest_80 : decode cX9_safest 80 = .ok (.istore_n 3, 1) := by decide +kernel
theorem dX9_safest_81 : decode cX9_safest 81 = .ok (.iload 4, 2) := by decide +kernel
theorem dX9_safest_83 : decode cX9_safest 83 = .ok (.istore_n 2, 1) := by decide +kernel
theorem dX9_safest_84 : decode cX9_safest 84 = .ok (.iinc 4 1, 3) := by decide +kernel
theorem dX9_safest_87 : decode cX9_safest 87 = .ok (.goto (-69), 3) := by decide +kernel
theorem dX9_safest_90 : decode cX9_safest 90 = .ok (.iload_n 2, 1) := by decide +kernel
theorem dX9_safest_91 : decode cX9_safest 91 = .ok (.ireturn, 1) := by decide +kernel
theorem dX9_answersOn_0 : decode cX9_answersOn 0 = .ok (.iload_n 1, 1) := by decide +kernel
theorem dX9_answersOn_1 : decode cX9_answersOn 1 = .ok (.invokestatic 185, 3) := by decide +kernel
theorem dX9_answersOn_4 : decode cX9_answersOn 4 = .ok (.ifCond .eq 14, 3) := by decide +kernel
theorem dX9_answersOn_7 : decode cX9_answersOn 7 = .ok (.aload_n 0, 1) := by decide +kernel
theorem dX9_answersOn_8 : decode cX9_answersOn 8 = .ok (.getfield 37, 3) := by decide +kernel
theorem dX9_answersOn_11 : decode cX9_answersOn 11 = .ok (.iload_n 1, 1) := by decide +kernel
theorem dX9_answersOn_12 : decode cX9_answersOn 12 = .ok (.invokevirtual 291, 3) := by decide +kernel
theorem dX9_answersOn_15 : decode cX9_answersOn 15 = .ok (.goto 4, 3) := by decide +kernel
theorem dX9_answersOn_18 : decode cX9_answersOn 18 = .ok (.iconst (-1), 1) := by decide +kernel
theorem dX9_answersOn_19 : decode cX9_answersOn 19 = .ok (.ireturn, 1) := by decide +kernel
theorem dX9_note_0 : decode cX9_note 0 = .ok (.iload_n 1, 1) := by decide +kernel
theorem dX9_note_1 : decode cX9_note 1 = .ok (.iconst 1, 1) := by decide +kernel
theorem dX9_note_2 : decode cX9_note 2 = .ok (.if_icmp .lt 27, 3) := by decide +kernel
theorem dX9_note_5 : decode cX9_note 5 = .ok (.iload_n 1, 1) := by decide +kernel
theorem dX9_note_6 : decode cX9_note 6 = .ok (.bipush 40, 2) := by decide +kernel
theorem dX9_note_8 : decode cX9_note 8 = .ok (.if_icmp .gt 21, 3) := by decide +kernel
theorem dX9_note_11 : decode cX9_note 11 = .ok (.aload_n 0, 1) := by decide +kernel
theorem dX9_note_12 : decode cX9_note 12 = .ok (.iload_n 2, 1) := by decide +kernel
theorem dX9_note_13 : decode cX9_note 13 = .ok (.invokevirtual 135, 3) := by decide +kernel
theorem dX9_note_16 : decode cX9_note 16 = .ok (.ifCond .eq 13, 3) := by decide +kernel
theorem dX9_note_19 : decode cX9_note 19 = .ok (.iload_n 3, 1) := by decide +kernel
theorem dX9_note_20 : decode cX9_note 20 = .ok (.ifCond .lt 9, 3) := by decide +kernel
theorem dX9_note_23 : decode cX9_note 23 = .ok (.iload_n 3, 1) := by decide +kernel
theorem dX9_note_24 : decode cX9_note 24 = .ok (.bipush 9, 2) := by decide +kernel
theorem dX9_note_26 : decode cX9_note 26 = .ok (.if_icmp .le 5, 3) := by decide +kernel
theorem dX9_note_29 : decode cX9_note 29 = .ok (.iconst (-1), 1) := by decide +kernel
theorem dX9_note_30 : decode cX9_note 30 = .ok (.ireturn, 1) := by decide +kernel
theorem dX9_note_31 : decode cX9_note 31 = .ok (.aload_n 0, 1) := by decide +kernel
theorem dX9_note_32 : decode cX9_note 32 = .ok (.getfield 50, 3) := by decide +kernel
theorem dX9_note_35 : decode cX9_note 35 = .ok (.iload_n 1, 1) := by decide +kernel
theorem dX9_note_36 : decode cX9_note 36 = .ok (.iload_n 2, 1) := by decide +kernel
theorem dX9_note_37 : decode cX9_note 37 = .ok (.iload_n 3, 1) := by decide +kernel
theorem dX9_note_38 : decode cX9_note 38 = .ok (.iload 4, 2) := by decide +kernel
theorem dX9_note_40 : decode cX9_note 40 = .ok (.invokevirtual 294, 3) := by decide +kernel
theorem dX9_note_43 : decode cX9_note 43 = .ok (.ireturn, 1) := by decide +kernel
theorem dX9_out_0 : decode cX9_out 0 = .ok (.iload_n 1, 1) := by decide +kernel
theorem dX9_out_1 : decode cX9_out 1 = .ok (.ifCond .lt 14, 3) := by decide +kernel
theorem dX9_out_4 : decode cX9_out 4 = .ok (.iload_n 1, 1) := by decide +kernel
theorem dX9_out_5 : decode cX9_out 5 = .ok (.aload_n 0, 1) := by decide +kernel
theorem dX9_out_6 : decode cX9_out 6 = .ok (.getfield 50, 3) := by decide +kernel
theorem dX9_out_9 : decode cX9_out 9 = .ok (.getfield 298, 3) := by decide +kernel
theorem dX9_out_12 : decode cX9_out 12 = .ok (.if_icmp .lt 7, 3) := by decide +kernel
theorem dX9_out_15 : decode cX9_out 15 = .ok (.iconst (-1), 1) := by decide +kernel
theorem dX9_out_16 : decode cX9_out 16 = .ok (.goto 11, 3) := by decide +kernel
theorem dX9_out_19 : decode cX9_out 19 = .ok (.aload_n 0, 1) := by decide +kernel
theorem dX9_out_20 : decode cX9_out 20 = .ok (.getfield 50, 3) := by decide +kernel
theorem dX9_out_23 : decode cX9_out 23 = .ok (.iload_n 1, 1) := by decide +kernel
theorem dX9_out_24 : decode cX9_out 24 = .ok (.invokevirtual 299, 3) := by decide +kernel
theorem dX9_out_27 : decode cX9_out 27 = .ok (.ireturn, 1) := by decide +kernel
theorem dX9_known_0 : decode cX9_known 0 = .ok (.iload_n 1, 1) := by decide +kernel
theorem dX9_known_1 : decode cX9_known 1 = .ok (.iconst (-1), 1) := by decide +kernel
theorem dX9_known_2 : decode cX9_known 2 = .ok (.if_icmp .lt 14, 3) := by decide +kernel
theorem dX9_known_5 : decode cX9_known 5 = .ok (.iload_n 1, 1) := by decide +kernel
theorem dX9_known_6 : decode cX9_known 6 = .ok (.aload_n 0, 1) := by decide +kernel
theorem dX9_known_7 : decode cX9_known 7 = .ok (.getfield 50, 3) := by decide +kernel
theorem dX9_known_10 : decode cX9_known 10 = .ok (.getfield 298, 3) := by decide +kernel
theorem dX9_known_13 : decode cX9_known 13 = .ok (.if_icmp .le 5, 3) := by decide +kernel
theorem dX9_known_16 : decode cX9_known 16 = .ok (.iconst 0, 1) := by decide +kernel
theorem dX9_known_17 : decode cX9_known 17 = .ok (.ireturn, 1) := by decide +kernel
theorem dX9_known_18 : decode cX9_known 18 = .ok (.aload_n 0, 1) := by decide +kernel
theorem dX9_known_19 : decode cX9_known 19 = .ok (.getfield 50, 3) := by decide +kernel
theorem dX9_known_22 : decode cX9_known 22 = .ok (.iload_n 1, 1) := by decide +kernel
theorem dX9_known_23 : decode cX9_known 23 = .ok (.putfield 302, 3) := by decide +kernel
theorem dX9_known_26 : decode cX9_known 26 = .ok (.iconst 1, 1) := by decide +kernel
theorem dX9_known_27 : decode cX9_known 27 = .ok (.ireturn, 1) := by decide +kernel
theorem dX9_cares_0 : decode cX9_cares 0 = .ok (.aload_n 0, 1) := by decide +kernel
theorem dX9_cares_1 : decode cX9_cares 1 = .ok (.iload_n 1, 1) := by decide +kernel
theorem dX9_cares_2 : decode cX9_cares 2 = .ok (.invokevirtual 172, 3) := by decide +kernel
theorem dX9_cares_5 : decode cX9_cares 5 = .ok (.ifCond .ne 5, 3) := by decide +kernel
theorem dX9_cares_8 : decode cX9_cares 8 = .ok (.iconst (-1), 1) := by decide +kernel
theorem dX9_cares_9 : decode cX9_cares 9 = .ok (.ireturn, 1) := by decide +kernel
theorem dX9_cares_10 : decode cX9_cares 10 = .ok (.aload_n 0, 1) := by decide +kernel
theorem dX9_cares_11 : decode cX9_cares 11 = .ok (.getfield 50, 3) := by decide +kernel
theorem dX9_cares_14 : decode cX9_cares 14 = .ok (.invokevirtual 305, 3) := by decide +kernel
theorem dX9_cares_17 : decode cX9_cares 17 = .ok (.iconst 0, 1) := by decide +kernel
theorem dX9_cares_18 : decode cX9_cares 18 = .ok (.istore_n 2, 1) := by decide +kernel
theorem dX9_cares_19 : decode cX9_cares 19 = .ok (.iconst 0, 1) := by decide +kernel
theorem dX9_cares_20 : decode cX9_cares 20 = .ok (.istore_n 3, 1) := by decide +kernel
theorem dX9_cares_21 : decode cX9_cares 21 = .ok (.iload_n 3, 1) := by decide +kernel
theorem dX9_cares_22 : decode cX9_cares 22 = .ok (.bipush 9, 2) := by decide +kernel
theorem dX9_cares_24 : decode cX9_cares 24 = .ok (.if_icmp .gt 46, 3) := by decide +kernel
theorem dX9_cares_27 : decode cX9_cares 27 = .ok (.aload_n 0, 1) := by decide +kernel
theorem dX9_cares_28 : decode cX9_cares 28 = .ok (.getfield 44, 3) := by decide +kernel
theorem dX9_cares_31 : decode cX9_cares 31 = .ok (.invokevirtual 72, 3) := by decide +kernel
theorem dX9_cares_34 : decode cX9_cares 34 = .ok (.aload_n 0, 1) := by decide +kernel
theorem dX9_cares_35 : decode cX9_cares 35 = .ok (.getfield 44, 3) := by decide +kernel
theorem dX9_cares_38 : decode cX9_cares 38 = .ok (.getfield 308, 3) := by decide +kernel
theorem dX9_cares_41 : decode cX9_cares 41 = .ok (.iload_n 1, 1) := by decide +kernel
theorem dX9_cares_42 : decode cX9_cares 42 = .ok (.iload_n 3, 1) := by decide +kernel
theorem dX9_cares_43 : decode cX9_cares 43 = .ok (.iastore, 1) := by decide +kernel
theorem dX9_cares_44 : decode cX9_cares 44 = .ok (.aload_n 0, 1) := by decide +kernel
theorem dX9_cares_45 : decode cX9_cares 45 = .ok (.getfield 50, 3) := by decide +kernel
theorem dX9_cares_48 : decode cX9_cares 48 = .ok (.aload_n 0, 1) := by decide +kernel
theorem dX9_cares_49 : decode cX9_cares 49 = .ok (.getfield 44, 3) := by decide +kernel
theorem dX9_cares_52 : decode cX9_cares 52 = .ok (.invokevirtual 311, 3) := by decide +kernel
theorem dX9_cares_55 : decode cX9_cares 55 = .ok (.ifCond .eq 9, 3) := by decide +kernel
theorem dX9_cares_58 : decode cX9_cares 58 = .ok (.iload_n 2, 1) := by decide +kernel
theorem dX9_cares_59 : decode cX9_cares 59 = .ok (.iconst 1, 1) := by decide +kernel
theorem dX9_cares_60 : decode cX9_cares 60 = .ok (.iload_n 3, 1) := by decide +kernel
theorem dX9_cares_61 : decode cX9_cares 61 = .ok (.ishl, 1) := by decide +kernel
theorem dX9_cares_62 : decode cX9_cares 62 = .ok (.ior, 1) := by decide +kernel
theorem dX9_cares_63 : decode cX9_cares 63 = .ok (.istore_n 2, 1) := by decide +kernel
theorem dX9_cares_64 : decode cX9_cares 64 = .ok (.iinc 3 1, 3) := by decide +kernel
theorem dX9_cares_67 : decode cX9_cares 67 = .ok (.goto (-46), 3) := by decide +kernel
theorem dX9_cares_70 : decode cX9_cares 70 = .ok (.iload_n 2, 1) := by decide +kernel
theorem dX9_cares_71 : decode cX9_cares 71 = .ok (.ireturn, 1) := by decide +kernel
theorem dX9_chance_0 : decode cX9_chance 0 = .ok (.iload_n 1, 1) := by decide +kernel
theorem dX9_chance_1 : decode cX9_chance 1 = .ok (.ifCond .lt 24, 3) := by decide +kernel
theorem dX9_chance_4 : decode cX9_chance 4 = .ok (.iload_n 2, 1) := by decide +kernel
theorem dX9_chance_5 : decode cX9_chance 5 = .ok (.iconst 1, 1) := by decide +kernel
theorem dX9_chance_6 : decode cX9_chance 6 = .ok (.if_icmp .lt 19, 3) := by decide +kernel
theorem dX9_chance_9 : decode cX9_chance 9 = .ok (.iload_n 2, 1) := by decide +kernel
theorem dX9_chance_10 : decode cX9_chance 10 = .ok (.bipush 60, 2) := by decide +kernel
theorem dX9_chance_12 : decode cX9_chance 12 = .ok (.if_icmp .gt 13, 3) := by decide +kernel
theorem dX9_chance_15 : decode cX9_chance 15 = .ok (.iload_n 3, 1) := by decide +kernel
theorem dX9_chance_16 : decode cX9_chance 16 = .ok (.ifCond .lt 9, 3) := by decide +kernel
theorem dX9_chance_19 : decode cX9_chance 19 = .ok (.iload_n 3, 1) := by decide +kernel
theorem dX9_chance_20 : decode cX9_chance 20 = .ok (.bipush 99, 2) := by decide +kernel
theorem dX9_chance_22 : decode cX9_chance 22 = .ok (.if_icmp .le 5, 3) := by decide +kernel
theorem dX9_chance_25 : decode cX9_chance 25 = .ok (.iconst (-1), 1) := by decide +kernel
theorem dX9_chance_26 : decode cX9_chance 26 = .ok (.ireturn, 1) := by decide +kernel
theorem dX9_chance_27 : decode cX9_chance 27 = .ok (.iconst 0, 1) := by decide +kernel
theorem dX9_chance_28 : decode cX9_chance 28 = .ok (.istore 4, 2) := by decide +kernel
theorem dX9_chance_30 : decode cX9_chance 30 = .ok (.iload_n 1, 1) := by decide +kernel
theorem dX9_chance_31 : decode cX9_chance 31 = .ok (.i2l, 1) := by decide +kernel
theorem dX9_chance_32 : decode cX9_chance 32 = .ok (.lstore 5, 2) := by decide +kernel
theorem dX9_chance_34 : decode cX9_chance 34 = .ok (.iconst 0, 1) := by decide +kernel
theorem dX9_chance_35 : decode cX9_chance 35 = .ok (.istore 7, 2) := by decide +kernel
theorem dX9_chance_37 : decode cX9_chance 37 = .ok (.iload 7, 2) := by decide +kernel
theorem dX9_chance_39 : decode cX9_chance 39 = .ok (.bipush 10, 2) := by decide +kernel
theorem dX9_chance_41 : decode cX9_chance 41 = .ok (.if_icmp .ge 69, 3) := by decide +kernel
theorem dX9_chance_44 : decode cX9_chance 44 = .ok (.aload_n 0, 1) := by decide +kernel
theorem dX9_chance_45 : decode cX9_chance 45 = .ok (.getfield 44, 3) := by decide +kernel
theorem dX9_chance_48 : decode cX9_chance 48 = .ok (.aload_n 0, 1) := by decide +kernel
theorem dX9_chance_49 : decode cX9_chance 49 = .ok (.getfield 37, 3) := by decide +kernel
theorem dX9_chance_52 : decode cX9_chance 52 = .ok (.invokevirtual 256, 3) := by decide +kernel
theorem dX9_chance_55 : decode cX9_chance 55 = .ok (.aload_n 0, 1) := by decide +kernel
theorem dX9_chance_56 : decode cX9_chance 56 = .ok (.getfield 44, 3) := by decide +kernel
theorem dX9_chance_59 : decode cX9_chance 59 = .ok (.lload 5, 2) := by decide +kernel
theorem dX9_chance_61 : decode cX9_chance 61 = .ok (.putfield 315, 3) := by decide +kernel
theorem dX9_chance_64 : decode cX9_chance 64 = .ok (.aload_n 0, 1) := by decide +kernel
theorem dX9_chance_65 : decode cX9_chance 65 = .ok (.getfield 44, 3) := by decide +kernel
theorem dX9_chance_68 : decode cX9_chance 68 = .ok (.iload_n 2, 1) := by decide +kernel
theorem dX9_chance_69 : decode cX9_chance 69 = .ok (.iconst 1, 1) := by decide +kernel
theorem dX9_chance_70 : decode cX9_chance 70 = .ok (.invokevirtual 245, 3) := by decide +kernel
theorem dX9_chance_73 : decode cX9_chance 73 = .ok (.aload_n 0, 1) := by decide +kernel
theorem dX9_chance_74 : decode cX9_chance 74 = .ok (.getfield 44, 3) := by decide +kernel
theorem dX9_chance_77 : decode cX9_chance 77 = .ok (.getfield 315, 3) := by decide +kernel
theorem dX9_chance_80 : decode cX9_chance 80 = .ok (.lstore 5, 2) := by decide +kernel
theorem dX9_chance_82 : decode cX9_chance 82 = .ok (.aload_n 0, 1) := by decide +kernel
theorem dX9_chance_83 : decode cX9_chance 83 = .ok (.getfield 44, 3) := by decide +kernel
theorem dX9_chance_86 : decode cX9_chance 86 = .ok (.invokevirtual 253, 3) := by decide +kernel
theorem dX9_chance_89 : decode cX9_chance 89 = .ok (.aload_n 0, 1) := by decide +kernel
theorem dX9_chance_90 : decode cX9_chance 90 = .ok (.getfield 37, 3) := by decide +kernel
theorem dX9_chance_93 : decode cX9_chance 93 = .ok (.invokevirtual 253, 3) := by decide +kernel
theorem dX9_chance_96 : decode cX9_chance 96 = .ok (.isub, 1) := by decide +kernel
theorem dX9_chance_97 : decode cX9_chance 97 = .ok (.iload_n 3, 1) := by decide +kernel
theorem dX9_chance_98 : decode cX9_chance 98 = .ok (.if_icmp .lt 6, 3) := by decide +kernel
theorem dX9_chance_101 : decode cX9_chance 101 = .ok (.iinc 4 1, 3) := by decide +kernel
theorem dX9_chance_104 : decode cX9_chance 104 = .ok (.iinc 7 1, 3) := by decide +kernel
theorem dX9_chance_107 : decode cX9_chance 107 = .ok (.goto (-70), 3) := by decide +kernel
theorem dX9_chance_110 : decode cX9_chance 110 = .ok (.iload 4, 2) := by decide +kernel
theorem dX9_chance_112 : decode cX9_chance 112 = .ok (.ireturn, 1) := by decide +kernel
theorem dX9_tried_0 : decode cX9_tried 0 = .ok (.iload_n 3, 1) := by decide +kernel
theorem dX9_tried_1 : decode cX9_tried 1 = .ok (.ifCond .lt 29, 3) := by decide +kernel
theorem dX9_tried_4 : decode cX9_tried 4 = .ok (.iload_n 3, 1) := by decide +kernel
theorem dX9_tried_5 : decode cX9_tried 5 = .ok (.bipush 60, 2) := by decide +kernel
theorem dX9_tried_7 : decode cX9_tried 7 = .ok (.if_icmp .gt 23, 3) := by decide +kernel
theorem dX9_tried_10 : decode cX9_tried 10 = .ok (.iload_n 1, 1) := by decide +kernel
theorem dX9_tried_11 : decode cX9_tried 11 = .ok (.iconst 2, 1) := by decide +kernel
theorem dX9_tried_12 : decode cX9_tried 12 = .ok (.if_icmp .ne 14, 3) := by decide +kernel
theorem dX9_tried_15 : decode cX9_tried 15 = .ok (.aload_n 0, 1) := by decide +kernel
theorem dX9_tried_16 : decode cX9_tried 16 = .ok (.iload_n 2, 1) := by decide +kernel
theorem dX9_tried_17 : decode cX9_tried 17 = .ok (.invokevirtual 135, 3) := by decide +kernel
theorem dX9_tried_20 : decode cX9_tried 20 = .ok (.ifCond .ne 12, 3) := by decide +kernel
theorem dX9_tried_23 : decode cX9_tried 23 = .ok (.goto 7, 3) := by decide +kernel
theorem dX9_tried_26 : decode cX9_tried 26 = .ok (.iload_n 2, 1) := by decide +kernel
theorem dX9_tried_27 : decode cX9_tried 27 = .ok (.ifCond .eq 5, 3) := by decide +kernel
theorem dX9_tried_30 : decode cX9_tried 30 = .ok (.iconst (-1), 1) := by decide +kernel
theorem dX9_tried_31 : decode cX9_tried 31 = .ok (.ireturn, 1) := by decide +kernel
theorem dX9_tried_32 : decode cX9_tried 32 = .ok (.aload_n 0, 1) := by decide +kernel
theorem dX9_tried_33 : decode cX9_tried 33 = .ok (.getfield 44, 3) := by decide +kernel
theorem dX9_tried_36 : decode cX9_tried 36 = .ok (.aload_n 0, 1) := by decide +kernel
theorem dX9_tried_37 : decode cX9_tried 37 = .ok (.getfield 37, 3) := by decide +kernel
theorem dX9_tried_40 : decode cX9_tried 40 = .ok (.invokevirtual 256, 3) := by decide +kernel
theorem dX9_tried_43 : decode cX9_tried 43 = .ok (.iconst 0, 1) := by decide +kernel
theorem dX9_tried_44 : decode cX9_tried 44 = .ok (.istore 4, 2) := by decide +kernel
theorem dX9_tried_46 : decode cX9_tried 46 = .ok (.iload_n 1, 1) := by decide +kernel
theorem dX9_tried_47 : decode cX9_tried 47 = .ok (.tableswitch 82 0 5 #[37, 40, 46, 57, 63, 75], 37) := by decide +kernel
theorem dX9_tried_84 : decode cX9_tried 84 = .ok (.goto 47, 3) := by decide +kernel
theorem dX9_tried_87 : decode cX9_tried 87 = .ok (.iconst 2, 1) := by decide +kernel
theorem dX9_tried_88 : decode cX9_tried 88 = .ok (.istore 4, 2) := by decide +kernel
theorem dX9_tried_90 : decode cX9_tried 90 = .ok (.goto 41, 3) := by decide +kernel
theorem dX9_tried_93 : decode cX9_tried 93 = .ok (.aload_n 0, 1) := by decide +kernel
theorem dX9_tried_94 : decode cX9_tried 94 = .ok (.getfield 44, 3) := by decide +kernel
theorem dX9_tried_97 : decode cX9_tried 97 = .ok (.iload_n 2, 1) := by decide +kernel
theorem dX9_tried_98 : decode cX9_tried 98 = .ok (.invokevirtual 231, 3) := by decide +kernel
theorem dX9_tried_101 : decode cX9_tried 101 = .ok (.goto 30, 3) := by decide +kernel
theorem dX9_tried_104 : decode cX9_tried 104 = .ok (.iconst 4, 1) := by decide +kernel
theorem dX9_tried_105 : decode cX9_tried 105 = .ok (.istore 4, 2) := by decide +kernel
theorem dX9_tried_107 : decode cX9_tried 107 = .ok (.goto 24, 3) := by decide +kernel
theorem dX9_tried_110 : decode cX9_tried 110 = .ok (.aload_n 0, 1) := by decide +kernel
theorem dX9_tried_111 : decode cX9_tried 111 = .ok (.getfield 44, 3) := by decide +kernel
theorem dX9_tried_114 : decode cX9_tried 114 = .ok (.bipush 9, 2) := by decide +kernel
theorem dX9_tried_116 : decode cX9_tried 116 = .ok (.invokevirtual 319, 3) := by decide +kernel
theorem dX9_tried_119 : decode cX9_tried 119 = .ok (.goto 12, 3) := by decide +kernel
theorem dX9_tried_122 : decode cX9_tried 122 = .ok (.bipush 8, 2) := by decide +kernel
theorem dX9_tried_124 : decode cX9_tried 124 = .ok (.istore 4, 2) := by decide +kernel
theorem dX9_tried_126 : decode cX9_tried 126 = .ok (.goto 5, 3) := by decide +kernel
theorem dX9_tried_129 : decode cX9_tried 129 = .ok (.iconst (-1), 1) := by decide +kernel
theorem dX9_tried_130 : decode cX9_tried 130 = .ok (.ireturn, 1) := by decide +kernel
theorem dX9_tried_131 : decode cX9_tried 131 = .ok (.aload_n 0, 1) := by decide +kernel
theorem dX9_tried_132 : decode cX9_tried 132 = .ok (.getfield 44, 3) := by decide +kernel
theorem dX9_tried_135 : decode cX9_tried 135 = .ok (.iload_n 3, 1) := by decide +kernel
theorem dX9_tried_136 : decode cX9_tried 136 = .ok (.iload 4, 2) := by decide +kernel
theorem dX9_tried_138 : decode cX9_tried 138 = .ok (.invokevirtual 245, 3) := by decide +kernel
theorem dX9_tried_141 : decode cX9_tried 141 = .ok (.aload_n 0, 1) := by decide +kernel
theorem dX9_tried_142 : decode cX9_tried 142 = .ok (.getfield 44, 3) := by decide +kernel
theorem dX9_tried_145 : decode cX9_tried 145 = .ok (.invokevirtual 322, 3) := by decide +kernel
theorem dX9_tried_148 : decode cX9_tried 148 = .ok (.ireturn, 1) := by decide +kernel
theorem dX9_undo_0 : decode cX9_undo 0 = .ok (.aload_n 0, 1) := by decide +kernel
theorem dX9_undo_1 : decode cX9_undo 1 = .ok (.getfield 57, 3) := by decide +kernel
theorem dX9_undo_4 : decode cX9_undo 4 = .ok (.getfield 325, 3) := by decide +kernel
theorem dX9_undo_7 : decode cX9_undo 7 = .ok (.ifCond .ne 5, 3) := by decide +kernel
theorem dX9_undo_10 : decode cX9_undo 10 = .ok (.iconst (-1), 1) := by decide +kernel
theorem dX9_undo_11 : decode cX9_undo 11 = .ok (.ireturn, 1) := by decide +kernel
theorem dX9_undo_12 : decode cX9_undo 12 = .ok (.aload_n 0, 1) := by decide +kernel
theorem dX9_undo_13 : decode cX9_undo 13 = .ok (.getfield 57, 3) := by decide +kernel
theorem dX9_undo_16 : decode cX9_undo 16 = .ok (.aload_n 0, 1) := by decide +kernel
theorem dX9_undo_17 : decode cX9_undo 17 = .ok (.getfield 37, 3) := by decide +kernel
theorem dX9_undo_20 : decode cX9_undo 20 = .ok (.invokevirtual 326, 3) := by decide +kernel
theorem dX9_undo_23 : decode cX9_undo 23 = .ok (.aload_n 0, 1) := by decide +kernel
theorem dX9_undo_24 : decode cX9_undo 24 = .ok (.getfield 64, 3) := by decide +kernel
theorem dX9_undo_27 : decode cX9_undo 27 = .ok (.invokevirtual 228, 3) := by decide +kernel
theorem dX9_undo_30 : decode cX9_undo 30 = .ok (.aload_n 0, 1) := by decide +kernel
theorem dX9_undo_31 : decode cX9_undo 31 = .ok (.getfield 57, 3) := by decide +kernel
theorem dX9_undo_34 : decode cX9_undo 34 = .ok (.getfield 325, 3) := by decide +kernel
theorem dX9_undo_37 : decode cX9_undo 37 = .ok (.ireturn, 1) := by decide +kernel
theorem dX9_keep_0 : decode cX9_keep 0 = .ok (.aload_n 0, 1) := by decide +kernel
theorem dX9_keep_1 : decode cX9_keep 1 = .ok (.getfield 41, 3) := by decide +kernel
theorem dX9_keep_4 : decode cX9_keep 4 = .ok (.aload_n 0, 1) := by decide +kernel
theorem dX9_keep_5 : decode cX9_keep 5 = .ok (.getfield 37, 3) := by decide +kernel
theorem dX9_keep_8 : decode cX9_keep 8 = .ok (.invokevirtual 256, 3) := by decide +kernel
theorem dX9_keep_11 : decode cX9_keep 11 = .ok (.aload_n 0, 1) := by decide +kernel
theorem dX9_keep_12 : decode cX9_keep 12 = .ok (.iconst 1, 1) := by decide +kernel
theorem dX9_keep_13 : decode cX9_keep 13 = .ok (.putfield 68, 3) := by decide +kernel
theorem dX9_keep_16 : decode cX9_keep 16 = .ok (.aload_n 0, 1) := by decide +kernel
theorem dX9_keep_17 : decode cX9_keep 17 = .ok (.getfield 37, 3) := by decide +kernel
theorem dX9_keep_20 : decode cX9_keep 20 = .ok (.getfield 242, 3) := by decide +kernel
theorem dX9_keep_23 : decode cX9_keep 23 = .ok (.ireturn, 1) := by decide +kernel
theorem dX9_back_0 : decode cX9_back 0 = .ok (.aload_n 0, 1) := by decide +kernel
theorem dX9_back_1 : decode cX9_back 1 = .ok (.getfield 68, 3) := by decide +kernel
theorem dX9_back_4 : decode cX9_back 4 = .ok (.ifCond .ne 5, 3) := by decide +kernel
theorem dX9_back_7 : decode cX9_back 7 = .ok (.iconst (-1), 1) := by decide +kernel
theorem dX9_back_8 : decode cX9_back 8 = .ok (.ireturn, 1) := by decide +kernel
theorem dX9_back_9 : decode cX9_back 9 = .ok (.aload_n 0, 1) := by decide +kernel
theorem dX9_back_10 : decode cX9_back 10 = .ok (.getfield 37, 3) := by decide +kernel
theorem dX9_back_13 : decode cX9_back 13 = .ok (.aload_n 0, 1) := by decide +kernel
theorem dX9_back_14 : decode cX9_back 14 = .ok (.getfield 41, 3) := by decide +kernel
theorem dX9_back_17 : decode cX9_back 17 = .ok (.invokevirtual 256, 3) := by decide +kernel
theorem dX9_back_20 : decode cX9_back 20 = .ok (.aload_n 0, 1) := by decide +kernel
theorem dX9_back_21 : decode cX9_back 21 = .ok (.invokevirtual 110, 3) := by decide +kernel
theorem dX9_back_24 : decode cX9_back 24 = .ok (.aload_n 0, 1) := by decide +kernel
theorem dX9_back_25 : decode cX9_back 25 = .ok (.getfield 37, 3) := by decide +kernel
theorem dX9_back_28 : decode cX9_back 28 = .ok (.getfield 242, 3) := by decide +kernel
theorem dX9_back_31 : decode cX9_back 31 = .ok (.ireturn, 1) := by decide +kernel
theorem dX9_count_0 : decode cX9_count 0 = .ok (.iload_n 1, 1) := by decide +kernel
theorem dX9_count_1 : decode cX9_count 1 = .ok (.tableswitch 162 0 11 #[63, 71, 79, 87, 95, 106, 114, 122, 130, 138, 146, 154], 63) := by decide +kernel
theorem dX9_count_64 : decode cX9_count 64 = .ok (.aload_n 0, 1) := by decide +kernel
theorem dX9_count_65 : decode cX9_count 65 = .ok (.getfield 28, 3) := by decide +kernel
theorem dX9_count_68 : decode cX9_count 68 = .ok (.getfield 122, 3) := by decide +kernel
theorem dX9_count_71 : decode cX9_count 71 = .ok (.ireturn, 1) := by decide +kernel
theorem dX9_count_72 : decode cX9_count 72 = .ok (.aload_n 0, 1) := by decide +kernel
theorem dX9_count_73 : decode cX9_count 73 = .ok (.getfield 28, 3) := by decide +kernel
theorem dX9_count_76 : decode cX9_count 76 = .ok (.getfield 132, 3) := by decide +kernel
theorem dX9_count_79 : decode cX9_count 79 = .ok (.ireturn, 1) := by decide +kernel
theorem dX9_count_80 : decode cX9_count 80 = .ok (.aload_n 0, 1) := by decide +kernel
theorem dX9_count_81 : decode cX9_count 81 = .ok (.getfield 28, 3) := by decide +kernel
theorem dX9_count_84 : decode cX9_count 84 = .ok (.getfield 329, 3) := by decide +kernel
theorem dX9_count_87 : decode cX9_count 87 = .ok (.ireturn, 1) := by decide +kernel
theorem dX9_count_88 : decode cX9_count 88 = .ok (.aload_n 0, 1) := by decide +kernel
theorem dX9_count_89 : decode cX9_count 89 = .ok (.getfield 37, 3) := by decide +kernel
theorem dX9_count_92 : decode cX9_count 92 = .ok (.getfield 242, 3) := by decide +kernel
theorem dX9_count_95 : decode cX9_count 95 = .ok (.ireturn, 1) := by decide +kernel
theorem dX9_count_96 : decode cX9_count 96 = .ok (.aload_n 0, 1) := by decide +kernel
theorem dX9_count_97 : decode cX9_count 97 = .ok (.getfield 37, 3) := by decide +kernel
theorem dX9_count_100 : decode cX9_count 100 = .ok (.getfield 332, 3) := by decide +kernel
theorem dX9_count_103 : decode cX9_count 103 = .ok (.invokestatic 266, 3) := by decide +kernel
theorem dX9_count_106 : decode cX9_count 106 = .ok (.ireturn, 1) := by decide +kernel
theorem dX9_count_107 : decode cX9_count 107 = .ok (.aload_n 0, 1) := by decide +kernel
theorem dX9_count_108 : decode cX9_count 108 = .ok (.getfield 37, 3) := by decide +kernel
theorem dX9_count_111 : decode cX9_count 111 = .ok (.invokevirtual 322, 3) := by decide +kernel
theorem dX9_count_114 : decode cX9_count 114 = .ok (.ireturn, 1) := by decide +kernel
theorem dX9_count_115 : decode cX9_count 115 = .ok (.aload_n 0, 1) := by decide +kernel
theorem dX9_count_116 : decode cX9_count 116 = .ok (.getfield 37, 3) := by decide +kernel
theorem dX9_count_119 : decode cX9_count 119 = .ok (.invokevirtual 259, 3) := by decide +kernel
theorem dX9_count_122 : decode cX9_count 122 = .ok (.ireturn, 1) := by decide +kernel
theorem dX9_count_123 : decode cX9_count 123 = .ok (.aload_n 0, 1) := by decide +kernel
theorem dX9_count_124 : decode cX9_count 124 = .ok (.getfield 37, 3) := by decide +kernel
theorem dX9_count_127 : decode cX9_count 127 = .ok (.invokevirtual 253, 3) := by decide +kernel
theorem dX9_count_130 : decode cX9_count 130 = .ok (.ireturn, 1) := by decide +kernel
theorem dX9_count_131 : decode cX9_count 131 = .ok (.aload_n 0, 1) := by decide +kernel
theorem dX9_count_132 : decode cX9_count 132 = .ok (.getfield 37, 3) := by decide +kernel
theorem dX9_count_135 : decode cX9_count 135 = .ok (.getfield 335, 3) := by decide +kernel
theorem dX9_count_138 : decode cX9_count 138 = .ok (.ireturn, 1) := by decide +kernel
theorem dX9_count_139 : decode cX9_count 139 = .ok (.aload_n 0, 1) := by decide +kernel
theorem dX9_count_140 : decode cX9_count 140 = .ok (.getfield 50, 3) := by decide +kernel
theorem dX9_count_143 : decode cX9_count 143 = .ok (.getfield 298, 3) := by decide +kernel
theorem dX9_count_146 : decode cX9_count 146 = .ok (.ireturn, 1) := by decide +kernel
theorem dX9_count_147 : decode cX9_count 147 = .ok (.aload_n 0, 1) := by decide +kernel
theorem dX9_count_148 : decode cX9_count 148 = .ok (.getfield 50, 3) := by decide +kernel
theorem dX9_count_151 : decode cX9_count 151 = .ok (.invokevirtual 338, 3) := by decide +kernel
theorem dX9_count_154 : decode cX9_count 154 = .ok (.ireturn, 1) := by decide +kernel
theorem dX9_count_155 : decode cX9_count 155 = .ok (.aload_n 0, 1) := by decide +kernel
theorem dX9_count_156 : decode cX9_count 156 = .ok (.getfield 57, 3) := by decide +kernel
theorem dX9_count_159 : decode cX9_count 159 = .ok (.getfield 325, 3) := by decide +kernel
theorem dX9_count_162 : decode cX9_count 162 = .ok (.ireturn, 1) := by decide +kernel
theorem dX9_count_163 : decode cX9_count 163 = .ok (.iconst (-1), 1) := by decide +kernel
theorem dX9_count_164 : decode cX9_count 164 = .ok (.ireturn, 1) := by decide +kernel
theorem dX9_settle_0 : decode cX9_settle 0 = .ok (.aload_n 0, 1) := by decide +kernel
theorem dX9_settle_1 : decode cX9_settle 1 = .ok (.getfield 57, 3) := by decide +kernel
theorem dX9_settle_4 : decode cX9_settle 4 = .ok (.iconst 0, 1) := by decide +kernel
theorem dX9_settle_5 : decode cX9_settle 5 = .ok (.putfield 325, 3) := by decide +kernel
theorem dX9_settle_8 : decode cX9_settle 8 = .ok (.aload_n 0, 1) := by decide +kernel
theorem dX9_settle_9 : decode cX9_settle 9 = .ok (.getfield 64, 3) := by decide +kernel
theorem dX9_settle_12 : decode cX9_settle 12 = .ok (.invokevirtual 228, 3) := by decide +kernel
theorem dX9_settle_15 : decode cX9_settle 15 = .ok (.return_, 1) := by decide +kernel
theorem dX9_goneAhead_0 : decode cX9_goneAhead 0 = .ok (.aload_n 0, 1) := by decide +kernel
theorem dX9_goneAhead_1 : decode cX9_goneAhead 1 = .ok (.getfield 44, 3) := by decide +kernel
theorem dX9_goneAhead_4 : decode cX9_goneAhead 4 = .ok (.aload_n 0, 1) := by decide +kernel
theorem dX9_goneAhead_5 : decode cX9_goneAhead 5 = .ok (.getfield 37, 3) := by decide +kernel
theorem dX9_goneAhead_8 : decode cX9_goneAhead 8 = .ok (.invokevirtual 256, 3) := by decide +kernel
theorem dX9_goneAhead_11 : decode cX9_goneAhead 11 = .ok (.aload_n 0, 1) := by decide +kernel
theorem dX9_goneAhead_12 : decode cX9_goneAhead 12 = .ok (.getfield 44, 3) := by decide +kernel
theorem dX9_goneAhead_15 : decode cX9_goneAhead 15 = .ok (.iload_n 1, 1) := by decide +kernel
theorem dX9_goneAhead_16 : decode cX9_goneAhead 16 = .ok (.iconst 0, 1) := by decide +kernel
theorem dX9_goneAhead_17 : decode cX9_goneAhead 17 = .ok (.invokevirtual 245, 3) := by decide +kernel
theorem dX9_goneAhead_20 : decode cX9_goneAhead 20 = .ok (.aload_n 0, 1) := by decide +kernel
theorem dX9_goneAhead_21 : decode cX9_goneAhead 21 = .ok (.getfield 44, 3) := by decide +kernel
theorem dX9_goneAhead_24 : decode cX9_goneAhead 24 = .ok (.areturn, 1) := by decide +kernel
theorem dX9_canBeExchanged_0 : decode cX9_canBeExchanged 0 = .ok (.iload_n 1, 1) := by decide +kernel
theorem dX9_canBeExchanged_1 : decode cX9_canBeExchanged 1 = .ok (.aload_n 0, 1) := by decide +kernel
theorem dX9_canBeExchanged_2 : decode cX9_canBeExchanged 2 = .ok (.getfield 28, 3) := by decide +kernel
theorem dX9_canBeExchanged_5 : decode cX9_canBeExchanged 5 = .ok (.getfield 341, 3) := by decide +kernel
theorem dX9_canBeExchanged_8 : decode cX9_canBeExchanged 8 = .ok (.iconst 0, 1) := by decide +kernel
theorem dX9_canBeExchanged_9 : decode cX9_canBeExchanged 9 = .ok (.iaload, 1) := by decide +kernel
theorem dX9_canBeExchanged_10 : decode cX9_canBeExchanged 10 = .ok (.iand, 1) := by decide +kernel
theorem dX9_canBeExchanged_11 : decode cX9_canBeExchanged 11 = .ok (.istore 4, 2) := by decide +kernel
theorem dX9_canBeExchanged_13 : decode cX9_canBeExchanged 13 = .ok (.iload_n 1, 1) := by decide +kernel
theorem dX9_canBeExchanged_14 : decode cX9_canBeExchanged 14 = .ok (.aload_n 0, 1) := by decide +kernel
theorem dX9_canBeExchanged_15 : decode cX9_canBeExchanged 15 = .ok (.getfield 28, 3) := by decide +kernel
theorem dX9_canBeExchanged_18 : decode cX9_canBeExchanged 18 = .ok (.getfield 341, 3) := by decide +kernel
theorem dX9_canBeExchanged_21 : decode cX9_canBeExchanged 21 = .ok (.iconst 1, 1) := by decide +kernel
theorem dX9_canBeExchanged_22 : decode cX9_canBeExchanged 22 = .ok (.iaload, 1) := by decide +kernel
theorem dX9_canBeExchanged_23 : decode cX9_canBeExchanged 23 = .ok (.iand, 1) := by decide +kernel
theorem dX9_canBeExchanged_24 : decode cX9_canBeExchanged 24 = .ok (.istore 5, 2) := by decide +kernel
theorem dX9_canBeExchanged_26 : decode cX9_canBeExchanged 26 = .ok (.iload_n 1, 1) := by decide +kernel
theorem dX9_canBeExchanged_27 : decode cX9_canBeExchanged 27 = .ok (.aload_n 0, 1) := by decide +kernel
theorem dX9_canBeExchanged_28 : decode cX9_canBeExchanged 28 = .ok (.getfield 37, 3) := by decide +kernel
theorem dX9_canBeExchanged_31 : decode cX9_canBeExchanged 31 = .ok (.getfield 332, 3) := by decide +kernel
theorem dX9_canBeExchanged_34 : decode cX9_canBeExchanged 34 = .ok (.iand, 1) := by decide +kernel
theorem dX9_canBeExchanged_35 : decode cX9_canBeExchanged 35 = .ok (.iload_n 1, 1) := by decide +kernel
theorem dX9_canBeExchanged_36 : decode cX9_canBeExchanged 36 = .ok (.if_icmp .ne 21, 3) := by decide +kernel
theorem dX9_canBeExchanged_39 : decode cX9_canBeExchanged 39 = .ok (.iload 4, 2) := by decide +kernel
theorem dX9_canBeExchanged_41 : decode cX9_canBeExchanged 41 = .ok (.invokestatic 266, 3) := by decide +kernel
theorem dX9_canBeExchanged_44 : decode cX9_canBeExchanged 44 = .ok (.iload_n 2, 1) := by decide +kernel
theorem dX9_canBeExchanged_45 : decode cX9_canBeExchanged 45 = .ok (.if_icmp .ne 12, 3) := by decide +kernel
theorem dX9_canBeExchanged_48 : decode cX9_canBeExchanged 48 = .ok (.iload 5, 2) := by decide +kernel
theorem dX9_canBeExchanged_50 : decode cX9_canBeExchanged 50 = .ok (.invokestatic 266, 3) := by decide +kernel
theorem dX9_canBeExchanged_53 : decode cX9_canBeExchanged 53 = .ok (.iload_n 2, 1) := by decide +kernel
theorem dX9_canBeExchanged_54 : decode cX9_canBeExchanged 54 = .ok (.if_icmp .eq 5, 3) := by decide +kernel
theorem dX9_canBeExchanged_57 : decode cX9_canBeExchanged 57 = .ok (.iconst 0, 1) := by decide +kernel
theorem dX9_canBeExchanged_58 : decode cX9_canBeExchanged 58 = .ok (.ireturn, 1) := by decide +kernel
theorem dX9_canBeExchanged_59 : decode cX9_canBeExchanged 59 = .ok (.aload_n 0, 1) := by decide +kernel
theorem dX9_canBeExchanged_60 : decode cX9_canBeExchanged 60 = .ok (.getfield 28, 3) := by decide +kernel
theorem dX9_canBeExchanged_63 : decode cX9_canBeExchanged 63 = .ok (.aload_n 0, 1) := by decide +kernel
theorem dX9_canBeExchanged_64 : decode cX9_canBeExchanged 64 = .ok (.getfield 28, 3) := by decide +kernel
theorem dX9_canBeExchanged_67 : decode cX9_canBeExchanged 67 = .ok (.getfield 155, 3) := by decide +kernel
theorem dX9_canBeExchanged_70 : decode cX9_canBeExchanged 70 = .ok (.iload 4, 2) := by decide +kernel
theorem dX9_canBeExchanged_72 : decode cX9_canBeExchanged 72 = .ok (.invokevirtual 200, 3) := by decide +kernel
theorem dX9_canBeExchanged_75 : decode cX9_canBeExchanged 75 = .ok (.aload_n 0, 1) := by decide +kernel
theorem dX9_canBeExchanged_76 : decode cX9_canBeExchanged 76 = .ok (.getfield 28, 3) := by decide +kernel
theorem dX9_canBeExchanged_79 : decode cX9_canBeExchanged 79 = .ok (.aload_n 0, 1) := by decide +kernel
theorem dX9_canBeExchanged_80 : decode cX9_canBeExchanged 80 = .ok (.getfield 28, 3) := by decide +kernel
theorem dX9_canBeExchanged_83 : decode cX9_canBeExchanged 83 = .ok (.getfield 155, 3) := by decide +kernel
theorem dX9_canBeExchanged_86 : decode cX9_canBeExchanged 86 = .ok (.iload 5, 2) := by decide +kernel
theorem dX9_canBeExchanged_88 : decode cX9_canBeExchanged 88 = .ok (.invokevirtual 200, 3) := by decide +kernel
theorem dX9_canBeExchanged_91 : decode cX9_canBeExchanged 91 = .ok (.isub, 1) := by decide +kernel
theorem dX9_canBeExchanged_92 : decode cX9_canBeExchanged 92 = .ok (.invokestatic 344, 3) := by decide +kernel
theorem dX9_canBeExchanged_95 : decode cX9_canBeExchanged 95 = .ok (.iload_n 3, 1) := by decide +kernel
theorem dX9_canBeExchanged_96 : decode cX9_canBeExchanged 96 = .ok (.if_icmp .gt 7, 3) := by decide +kernel
theorem dX9_canBeExchanged_99 : decode cX9_canBeExchanged 99 = .ok (.iconst 1, 1) := by decide +kernel
theorem dX9_canBeExchanged_100 : decode cX9_canBeExchanged 100 = .ok (.goto 4, 3) := by decide +kernel
theorem dX9_canBeExchanged_103 : decode cX9_canBeExchanged 103 = .ok (.iconst 0, 1) := by decide +kernel
theorem dX9_canBeExchanged_104 : decode cX9_canBeExchanged 104 = .ok (.ireturn, 1) := by decide +kernel
theorem dX9_isRest_0 : decode cX9_isRest 0 = .ok (.aload_n 0, 1) := by decide +kernel
theorem dX9_isRest_1 : decode cX9_isRest 1 = .ok (.iconst 0, 1) := by decide +kernel
theorem dX9_isRest_2 : decode cX9_isRest 2 = .ok (.iload_n 1, 1) := by decide +kernel
theorem dX9_isRest_3 : decode cX9_isRest 3 = .ok (.iload_n 2, 1) := by decide +kernel
theorem dX9_isRest_4 : decode cX9_isRest 4 = .ok (.invokevirtual 347, 3) := by decide +kernel
theorem dX9_isRest_7 : decode cX9_isRest 7 = .ok (.aload_n 0, 1) := by decide +kernel
theorem dX9_isRest_8 : decode cX9_isRest 8 = .ok (.iconst 0, 1) := by decide +kernel
theorem dX9_isRest_9 : decode cX9_isRest 9 = .ok (.iconst 1, 1) := by decide +kernel
theorem dX9_isRest_10 : decode cX9_isRest 10 = .ok (.iload_n 1, 1) := by decide +kernel
theorem dX9_isRest_11 : decode cX9_isRest 11 = .ok (.isub, 1) := by decide +kernel
theorem dX9_isRest_12 : decode cX9_isRest 12 = .ok (.iload_n 2, 1) := by decide +kernel
theorem dX9_isRest_13 : decode cX9_isRest 13 = .ok (.invokevirtual 347, 3) := by decide +kernel
theorem dX9_isRest_16 : decode cX9_isRest 16 = .ok (.if_icmp .lt 26, 3) := by decide +kernel
theorem dX9_isRest_19 : decode cX9_isRest 19 = .ok (.aload_n 0, 1) := by decide +kernel
theorem dX9_isRest_20 : decode cX9_isRest 20 = .ok (.iconst 1, 1) := by decide +kernel
theorem dX9_isRest_21 : decode cX9_isRest 21 = .ok (.iload_n 2, 1) := by decide +kernel
theorem dX9_isRest_22 : decode cX9_isRest 22 = .ok (.iload_n 1, 1) := by decide +kernel
theorem dX9_isRest_23 : decode cX9_isRest 23 = .ok (.invokevirtual 347, 3) := by decide +kernel
theorem dX9_isRest_26 : decode cX9_isRest 26 = .ok (.aload_n 0, 1) := by decide +kernel
theorem dX9_isRest_27 : decode cX9_isRest 27 = .ok (.iconst 1, 1) := by decide +kernel
theorem dX9_isRest_28 : decode cX9_isRest 28 = .ok (.iconst 1, 1) := by decide +kernel
theorem dX9_isRest_29 : decode cX9_isRest 29 = .ok (.iload_n 2, 1) := by decide +kernel
theorem dX9_isRest_30 : decode cX9_isRest 30 = .ok (.isub, 1) := by decide +kernel
theorem dX9_isRest_31 : decode cX9_isRest 31 = .ok (.iload_n 1, 1) := by decide +kernel
theorem dX9_isRest_32 : decode cX9_isRest 32 = .ok (.invokevirtual 347, 3) := by decide +kernel
theorem dX9_isRest_35 : decode cX9_isRest 35 = .ok (.if_icmp .lt 7, 3) := by decide +kernel
theorem dX9_isRest_38 : decode cX9_isRest 38 = .ok (.iconst 1, 1) := by decide +kernel
theorem dX9_isRest_39 : decode cX9_isRest 39 = .ok (.goto 4, 3) := by decide +kernel
theorem dX9_isRest_42 : decode cX9_isRest 42 = .ok (.iconst 0, 1) := by decide +kernel
theorem dX9_isRest_43 : decode cX9_isRest 43 = .ok (.ireturn, 1) := by decide +kernel
theorem dX9_gain_0 : decode cX9_gain 0 = .ok (.iload_n 2, 1) := by decide +kernel
theorem dX9_gain_1 : decode cX9_gain 1 = .ok (.iconst 1, 1) := by decide +kernel
theorem dX9_gain_2 : decode cX9_gain 2 = .ok (.if_icmp .ne 28, 3) := by decide +kernel
theorem dX9_gain_5 : decode cX9_gain 5 = .ok (.aload_n 0, 1) := by decide +kernel
theorem dX9_gain_6 : decode cX9_gain 6 = .ok (.getfield 28, 3) := by decide +kernel
theorem dX9_gain_9 : decode cX9_gain 9 = .ok (.aload_n 0, 1) := by decide +kernel
theorem dX9_gain_10 : decode cX9_gain 10 = .ok (.getfield 28, 3) := by decide +kernel
theorem dX9_gain_13 : decode cX9_gain 13 = .ok (.getfield 155, 3) := by decide +kernel
theorem dX9_gain_16 : decode cX9_gain 16 = .ok (.aload_n 0, 1) := by decide +kernel
theorem dX9_gain_17 : decode cX9_gain 17 = .ok (.getfield 37, 3) := by decide +kernel
theorem dX9_gain_20 : decode cX9_gain 20 = .ok (.iload_n 1, 1) := by decide +kernel
theorem dX9_gain_21 : decode cX9_gain 21 = .ok (.invokevirtual 194, 3) := by decide +kernel
theorem dX9_gain_24 : decode cX9_gain 24 = .ok (.invokevirtual 200, 3) := by decide +kernel
theorem dX9_gain_27 : decode cX9_gain 27 = .ok (.goto 4, 3) := by decide +kernel
theorem dX9_gain_30 : decode cX9_gain 30 = .ok (.iconst 0, 1) := by decide +kernel
theorem dX9_gain_31 : decode cX9_gain 31 = .ok (.istore 4, 2) := by decide +kernel
theorem dX9_gain_33 : decode cX9_gain 33 = .ok (.iload_n 3, 1) := by decide +kernel
theorem dX9_gain_34 : decode cX9_gain 34 = .ok (.iconst 1, 1) := by decide +kernel
theorem dX9_gain_35 : decode cX9_gain 35 = .ok (.if_icmp .ne 33, 3) := by decide +kernel
theorem dX9_gain_38 : decode cX9_gain 38 = .ok (.iload 4, 2) := by decide +kernel
theorem dX9_gain_40 : decode cX9_gain 40 = .ok (.iconst 5, 1) := by decide +kernel
theorem dX9_gain_41 : decode cX9_gain 41 = .ok (.aload_n 0, 1) := by decide +kernel
theorem dX9_gain_42 : decode cX9_gain 42 = .ok (.getfield 28, 3) := by decide +kernel
theorem dX9_gain_45 : decode cX9_gain 45 = .ok (.aload_n 0, 1) := by decide +kernel
theorem dX9_gain_46 : decode cX9_gain 46 = .ok (.getfield 28, 3) := by decide +kernel
theorem dX9_gain_49 : decode cX9_gain 49 = .ok (.getfield 152, 3) := by decide +kernel
theorem dX9_gain_52 : decode cX9_gain 52 = .ok (.aload_n 0, 1) := by decide +kernel
theorem dX9_gain_53 : decode cX9_gain 53 = .ok (.getfield 37, 3) := by decide +kernel
theorem dX9_gain_56 : decode cX9_gain 56 = .ok (.iload_n 1, 1) := by decide +kernel
theorem dX9_gain_57 : decode cX9_gain 57 = .ok (.invokevirtual 197, 3) := by decide +kernel
theorem dX9_gain_60 : decode cX9_gain 60 = .ok (.invokevirtual 200, 3) := by decide +kernel
theorem dX9_gain_63 : decode cX9_gain 63 = .ok (.imul, 1) := by decide +kernel
theorem dX9_gain_64 : decode cX9_gain 64 = .ok (.isub, 1) := by decide +kernel
theorem dX9_gain_65 : decode cX9_gain 65 = .ok (.goto 5, 3) := by decide +kernel
theorem dX9_gain_68 : decode cX9_gain 68 = .ok (.iload 4, 2) := by decide +kernel
theorem dX9_gain_70 : decode cX9_gain 70 = .ok (.ireturn, 1) := by decide +kernel
theorem dX9_isNurse_0 : decode cX9_isNurse 0 = .ok (.iload_n 1, 1) := by decide +kernel
theorem dX9_isNurse_1 : decode cX9_isNurse 1 = .ok (.ifCond .lt 18, 3) := by decide +kernel
theorem dX9_isNurse_4 : decode cX9_isNurse 4 = .ok (.iload_n 1, 1) := by decide +kernel
theorem dX9_isNurse_5 : decode cX9_isNurse 5 = .ok (.aload_n 0, 1) := by decide +kernel
theorem dX9_isNurse_6 : decode cX9_isNurse 6 = .ok (.getfield 28, 3) := by decide +kernel
theorem dX9_isNurse_9 : decode cX9_isNurse 9 = .ok (.getfield 122, 3) := by decide +kernel
theorem dX9_isNurse_12 : decode cX9_isNurse 12 = .ok (.if_icmp .ge 7, 3) := by decide +kernel
theorem dX9_isNurse_15 : decode cX9_isNurse 15 = .ok (.iconst 1, 1) := by decide +kernel
theorem dX9_isNurse_16 : decode cX9_isNurse 16 = .ok (.goto 4, 3) := by decide +kernel
theorem dX9_isNurse_19 : decode cX9_isNurse 19 = .ok (.iconst 0, 1) := by decide +kernel
theorem dX9_isNurse_20 : decode cX9_isNurse 20 = .ok (.ireturn, 1) := by decide +kernel
theorem dX9_isDoll_0 : decode cX9_isDoll 0 = .ok (.iload_n 1, 1) := by decide +kernel
theorem dX9_isDoll_1 : decode cX9_isDoll 1 = .ok (.ifCond .lt 18, 3) := by decide +kernel
theorem dX9_isDoll_4 : decode cX9_isDoll 4 = .ok (.iload_n 1, 1) := by decide +kernel
theorem dX9_isDoll_5 : decode cX9_isDoll 5 = .ok (.aload_n 0, 1) := by decide +kernel
theorem dX9_isDoll_6 : decode cX9_isDoll 6 = .ok (.getfield 28, 3) := by decide +kernel
theorem dX9_isDoll_9 : decode cX9_isDoll 9 = .ok (.getfield 132, 3) := by decide +kernel
theorem dX9_isDoll_12 : decode cX9_isDoll 12 = .ok (.if_icmp .ge 7, 3) := by decide +kernel
theorem dX9_isDoll_15 : decode cX9_isDoll 15 = .ok (.iconst 1, 1) := by decide +kernel
theorem dX9_isDoll_16 : decode cX9_isDoll 16 = .ok (.goto 4, 3) := by decide +kernel
theorem dX9_isDoll_19 : decode cX9_isDoll 19 = .ok (.iconst 0, 1) := by decide +kernel
theorem dX9_isDoll_20 : decode cX9_isDoll 20 = .ok (.ireturn, 1) := by decide +kernel
theorem dX9_isHeldDoll_0 : decode cX9_isHeldDoll 0 = .ok (.aload_n 0, 1) := by decide +kernel
theorem dX9_isHeldDoll_1 : decode cX9_isHeldDoll 1 = .ok (.iload_n 1, 1) := by decide +kernel
theorem dX9_isHeldDoll_2 : decode cX9_isHeldDoll 2 = .ok (.invokevirtual 135, 3) := by decide +kernel
theorem dX9_isHeldDoll_5 : decode cX9_isHeldDoll 5 = .ok (.ifCond .eq 18, 3) := by decide +kernel
theorem dX9_isHeldDoll_8 : decode cX9_isHeldDoll 8 = .ok (.aload_n 0, 1) := by decide +kernel
theorem dX9_isHeldDoll_9 : decode cX9_isHeldDoll 9 = .ok (.getfield 37, 3) := by decide +kernel
theorem dX9_isHeldDoll_12 : decode cX9_isHeldDoll 12 = .ok (.iload_n 1, 1) := by decide +kernel
theorem dX9_isHeldDoll_13 : decode cX9_isHeldDoll 13 = .ok (.invokevirtual 164, 3) := by decide +kernel
theorem dX9_isHeldDoll_16 : decode cX9_isHeldDoll 16 = .ok (.ifCond .eq 7, 3) := by decide +kernel
theorem dX9_isHeldDoll_19 : decode cX9_isHeldDoll 19 = .ok (.iconst 1, 1) := by decide +kernel
theorem dX9_isHeldDoll_20 : decode cX9_isHeldDoll 20 = .ok (.goto 4, 3) := by decide +kernel
theorem dX9_isHeldDoll_23 : decode cX9_isHeldDoll 23 = .ok (.iconst 0, 1) := by decide +kernel
theorem dX9_isHeldDoll_24 : decode cX9_isHeldDoll 24 = .ok (.ireturn, 1) := by decide +kernel
theorem dX9_isCity_0 : decode cX9_isCity 0 = .ok (.iload_n 0, 1) := by decide +kernel
theorem dX9_isCity_1 : decode cX9_isCity 1 = .ok (.ifCond .eq 8, 3) := by decide +kernel
theorem dX9_isCity_4 : decode cX9_isCity 4 = .ok (.iload_n 0, 1) := by decide +kernel
theorem dX9_isCity_5 : decode cX9_isCity 5 = .ok (.iconst 1, 1) := by decide +kernel
theorem dX9_isCity_6 : decode cX9_isCity 6 = .ok (.if_icmp .ne 7, 3) := by decide +kernel
theorem dX9_isCity_9 : decode cX9_isCity 9 = .ok (.iconst 1, 1) := by decide +kernel
theorem dX9_isCity_10 : decode cX9_isCity 10 = .ok (.goto 4, 3) := by decide +kernel
theorem dX9_isCity_13 : decode cX9_isCity 13 = .ok (.iconst 0, 1) := by decide +kernel
theorem dX9_isCity_14 : decode cX9_isCity 14 = .ok (.ireturn, 1) := by decide +kernel
theorem dX9_placeOf_0 : decode cX9_placeOf 0 = .ok (.iconst 0, 1) := by decide +kernel
theorem dX9_placeOf_1 : decode cX9_placeOf 1 = .ok (.istore_n 3, 1) := by decide +kernel
theorem dX9_placeOf_2 : decode cX9_placeOf 2 = .ok (.iload_n 3, 1) := by decide +kernel
theorem dX9_placeOf_3 : decode cX9_placeOf 3 = .ok (.iload_n 2, 1) := by decide +kernel
theorem dX9_placeOf_4 : decode cX9_placeOf 4 = .ok (.if_icmp .ge 18, 3) := by decide +kernel
theorem dX9_placeOf_7 : decode cX9_placeOf 7 = .ok (.aload_n 1, 1) := by decide +kernel
theorem dX9_placeOf_8 : decode cX9_placeOf 8 = .ok (.iload_n 3, 1) := by decide +kernel
theorem dX9_placeOf_9 : decode cX9_placeOf 9 = .ok (.iaload, 1) := by decide +kernel
theorem dX9_placeOf_10 : decode cX9_placeOf 10 = .ok (.iload_n 0, 1) := by decide +kernel
theorem dX9_placeOf_11 : decode cX9_placeOf 11 = .ok (.if_icmp .ne 5, 3) := by decide +kernel
theorem dX9_placeOf_14 : decode cX9_placeOf 14 = .ok (.iload_n 3, 1) := by decide +kernel
theorem dX9_placeOf_15 : decode cX9_placeOf 15 = .ok (.ireturn, 1) := by decide +kernel
theorem dX9_placeOf_16 : decode cX9_placeOf 16 = .ok (.iinc 3 1, 3) := by decide +kernel
theorem dX9_placeOf_19 : decode cX9_placeOf 19 = .ok (.goto (-17), 3) := by decide +kernel
theorem dX9_placeOf_22 : decode cX9_placeOf 22 = .ok (.iconst (-1), 1) := by decide +kernel
theorem dX9_placeOf_23 : decode cX9_placeOf 23 = .ok (.ireturn, 1) := by decide +kernel
theorem dX9_copy_0 : decode cX9_copy 0 = .ok (.iconst 0, 1) := by decide +kernel
theorem dX9_copy_1 : decode cX9_copy 1 = .ok (.istore_n 2, 1) := by decide +kernel
theorem dX9_copy_2 : decode cX9_copy 2 = .ok (.iload_n 2, 1) := by decide +kernel
theorem dX9_copy_3 : decode cX9_copy 3 = .ok (.aload_n 0, 1) := by decide +kernel
theorem dX9_copy_4 : decode cX9_copy 4 = .ok (.arraylength, 1) := by decide +kernel
theorem dX9_copy_5 : decode cX9_copy 5 = .ok (.if_icmp .ge 21, 3) := by decide +kernel
theorem dX9_copy_8 : decode cX9_copy 8 = .ok (.iload_n 2, 1) := by decide +kernel
theorem dX9_copy_9 : decode cX9_copy 9 = .ok (.aload_n 1, 1) := by decide +kernel
theorem dX9_copy_10 : decode cX9_copy 10 = .ok (.arraylength, 1) := by decide +kernel
theorem dX9_copy_11 : decode cX9_copy 11 = .ok (.if_icmp .ge 15, 3) := by decide +kernel
theorem dX9_copy_14 : decode cX9_copy 14 = .ok (.aload_n 1, 1) := by decide +kernel
theorem dX9_copy_15 : decode cX9_copy 15 = .ok (.iload_n 2, 1) := by decide +kernel
theorem dX9_copy_16 : decode cX9_copy 16 = .ok (.aload_n 0, 1) := by decide +kernel
theorem dX9_copy_17 : decode cX9_copy 17 = .ok (.iload_n 2, 1) := by decide +kernel
theorem dX9_copy_18 : decode cX9_copy 18 = .ok (.iaload, 1) := by decide +kernel
theorem dX9_copy_19 : decode cX9_copy 19 = .ok (.iastore, 1) := by decide +kernel
theorem dX9_copy_20 : decode cX9_copy 20 = .ok (.iinc 2 1, 3) := by decide +kernel
theorem dX9_copy_23 : decode cX9_copy 23 = .ok (.goto (-21), 3) := by decide +kernel
theorem dX9_copy_26 : decode cX9_copy 26 = .ok (.return_, 1) := by decide +kernel
theorem dX9_sharedDivisor_0 : decode cX9_sharedDivisor 0 = .ok (.bipush 100, 2) := by decide +kernel
theorem dX9_sharedDivisor_2 : decode cX9_sharedDivisor 2 = .ok (.istore_n 1, 1) := by decide +kernel
theorem dX9_sharedDivisor_3 : decode cX9_sharedDivisor 3 = .ok (.iload_n 1, 1) := by decide +kernel
theorem dX9_sharedDivisor_4 : decode cX9_sharedDivisor 4 = .ok (.iconst 1, 1) := by decide +kernel
theorem dX9_sharedDivisor_5 : decode cX9_sharedDivisor 5 = .ok (.if_icmp .le 24, 3) := by decide +kernel
theorem dX9_sharedDivisor_8 : decode cX9_sharedDivisor 8 = .ok (.bipush 100, 2) := by decide +kernel
theorem dX9_sharedDivisor_10 : decode cX9_sharedDivisor 10 = .ok (.iload_n 1, 1) := by decide +kernel
theorem dX9_sharedDivisor_11 : decode cX9_sharedDivisor 11 = .ok (.irem, 1) := by decide +kernel
theorem dX9_sharedDivisor_12 : decode cX9_sharedDivisor 12 = .ok (.ifCond .ne 11, 3) := by decide +kernel
theorem dX9_sharedDivisor_15 : decode cX9_sharedDivisor 15 = .ok (.iload_n 0, 1) := by decide +kernel
theorem dX9_sharedDivisor_16 : decode cX9_sharedDivisor 16 = .ok (.iload_n 1, 1) := by decide +kernel
theorem dX9_sharedDivisor_17 : decode cX9_sharedDivisor 17 = .ok (.irem, 1) := by decide +kernel
theorem dX9_sharedDivisor_18 : decode cX9_sharedDivisor 18 = .ok (.ifCond .ne 5, 3) := by decide +kernel
theorem dX9_sharedDivisor_21 : decode cX9_sharedDivisor 21 = .ok (.iload_n 1, 1) := by decide +kernel
theorem dX9_sharedDivisor_22 : decode cX9_sharedDivisor 22 = .ok (.ireturn, 1) := by decide +kernel
theorem dX9_sharedDivisor_23 : decode cX9_sharedDivisor 23 = .ok (.iinc 1 (-1), 3) := by decide +kernel
theorem dX9_sharedDivisor_26 : decode cX9_sharedDivisor 26 = .ok (.goto (-23), 3) := by decide +kernel
theorem dX9_sharedDivisor_29 : decode cX9_sharedDivisor 29 = .ok (.iconst 1, 1) := by decide +kernel
theorem dX9_sharedDivisor_30 : decode cX9_sharedDivisor 30 = .ok (.ireturn, 1) := by decide +kernel
theorem dX10_init_0 : decode cX10_init 0 = .ok (.aload_n 0, 1) := by decide +kernel
theorem dX10_init_1 : decode cX10_init 1 = .ok (.invokespecial 1, 3) := by decide +kernel
theorem dX10_init_4 : decode cX10_init 4 = .ok (.aload_n 0, 1) := by decide +kernel
theorem dX10_init_5 : decode cX10_init 5 = .ok (.sipush 700, 3) := by decide +kernel
theorem dX10_init_8 : decode cX10_init 8 = .ok (.newarray .int, 2) := by decide +kernel
theorem dX10_init_10 : decode cX10_init 10 = .ok (.putfield 7, 3) := by decide +kernel
theorem dX10_init_13 : decode cX10_init 13 = .ok (.aload_n 0, 1) := by decide +kernel
theorem dX10_init_14 : decode cX10_init 14 = .ok (.bipush 14, 2) := by decide +kernel
theorem dX10_init_16 : decode cX10_init 16 = .ok (.newarray .int, 2) := by decide +kernel
theorem dX10_init_18 : decode cX10_init 18 = .ok (.dup, 1) := by decide +kernel
theorem dX10_init_19 : decode cX10_init 19 = .ok (.iconst 0, 1) := by decide +kernel
theorem dX10_init_20 : decode cX10_init 20 = .ok (.iconst 0, 1) := by decide +kernel
theorem dX10_init_21 : decode cX10_init 21 = .ok (.iastore, 1) := by decide +kernel
theorem dX10_init_22 : decode cX10_init 22 = .ok (.dup, 1) := by decide +kernel
theorem dX10_init_23 : decode cX10_init 23 = .ok (.iconst 1, 1) := by decide +kernel
theorem dX10_init_24 : decode cX10_init 24 = .ok (.iconst 0, 1) := by decide +kernel
theorem dX10_init_25 : decode cX10_init 25 = .ok (.iastore, 1) := by decide +kernel
theorem dX10_init_26 : decode cX10_init 26 = .ok (.dup, 1) := by decide +kernel
theorem dX10_init_27 : decode cX10_init 27 = .ok (.iconst 2, 1) := by decide +kernel
theorem dX10_init_28 : decode cX10_init 28 = .ok (.bipush 20, 2) := by decide +kernel
theorem dX10_init_30 : decode cX10_init 30 = .ok (.iastore, 1) := by decide +kernel
theorem dX10_init_31 : decode cX10_init 31 = .ok (.dup, 1) := by decide +kernel
theorem dX10_init_32 : decode cX10_init 32 = .ok (.iconst 3, 1) := by decide +kernel
theorem dX10_init_33 : decode cX10_init 33 = .ok (.bipush 20, 2) := by decide +kernel
theorem dX10_init_35 : decode cX10_init 35 = .ok (.iastore, 1) := by decide +kernel
theorem dX10_init_36 : decode cX10_init 36 = .ok (.dup, 1) := by decide +kernel
theorem dX10_init_37 : decode cX10_init 37 = .ok (.iconst 4, 1) := by decide +kernel
theorem dX10_init_38 : decode cX10_init 38 = .ok (.iconst 5, 1) := by decide +kernel
theorem dX10_init_39 : decode cX10_init 39 = .ok (.iastore, 1) := by decide +kernel
theorem dX10_init_40 : decode cX10_init 40 = .ok (.dup, 1) := by decide +kernel
theorem dX10_init_41 : decode cX10_init 41 = .ok (.iconst 5, 1) := by decide +kernel
theorem dX10_init_42 : decode cX10_init 42 = .ok (.iconst 0, 1) := by decide +kernel
theorem dX10_init_43 : decode cX10_init 43 = .ok (.iastore, 1) := by decide +kernel
theorem dX10_init_44 : decode cX10_init 44 = .ok (.dup, 1) := by decide +kernel
theorem dX10_init_45 : decode cX10_init 45 = .ok (.bipush 6, 2) := by decide +kernel
theorem dX10_init_47 : decode cX10_init 47 = .ok (.iconst 0, 1) := by decide +kernel
theorem dX10_init_48 : decode cX10_init 48 = .ok (.iastore, 1) := by decide +kernel
theorem dX10_init_49 : decode cX10_init 49 = .ok (.dup, 1) := by decide +kernel
theorem dX10_init_50 : decode cX10_init 50 = .ok (.bipush 7, 2) := by decide +kernel
theorem dX10_init_52 : decode cX10_init 52 = .ok (.iconst 0, 1) := by decide +kernel
theorem dX10_init_53 : decode cX10_init 53 = .ok (.iastore, 1) := by decide +kernel
theorem dX10_init_54 : decode cX10_init 54 = .ok (.dup, 1) := by decide +kernel
theorem dX10_init_55 : decode cX10_init 55 = .ok (.bipush 8, 2) := by decide +kernel
theorem dX10_init_57 : decode cX10_init 57 = .ok (.iconst 0, 1) := by decide +kernel
theorem dX10_init_58 : decode cX10_init 58 = .ok (.iastore, 1) := by decide +kernel
theorem dX10_init_59 : decode cX10_init 59 = .ok (.dup, 1) := by decide +kernel
theorem dX10_init_60 : decode cX10_init 60 = .ok (.bipush 9, 2) := by decide +kernel
theorem dX10_init_62 : decode cX10_init 62 = .ok (.bipush 20, 2) := by decide +kernel
theorem dX10_init_64 : decode cX10_init 64 = .ok (.iastore, 1) := by decide +kernel
theorem dX10_init_65 : decode cX10_init 65 = .ok (.dup, 1) := by decide +kernel
theorem dX10_init_66 : decode cX10_init 66 = .ok (.bipush 10, 2) := by decide +kernel
theorem dX10_init_68 : decode cX10_init 68 = .ok (.bipush 20, 2) := by decide +kernel
theorem dX10_init_70 : decode cX10_init 70 = .ok (.iastore, 1) := by decide +kernel
theorem dX10_init_71 : decode cX10_init 71 = .ok (.dup, 1) := by decide +kernel
theorem dX10_init_72 : decode cX10_init 72 = .ok (.bipush 11, 2) := by decide +kernel
theorem dX10_init_74 : decode cX10_init 74 = .ok (.iconst 5, 1) := by decide +kernel
theorem dX10_init_75 : decode cX10_init 75 = .ok (.iastore, 1) := by decide +kernel
theorem dX10_init_76 : decode cX10_init 76 = .ok (.dup, 1) := by decide +kernel
theorem dX10_init_77 : decode cX10_init 77 = .ok (.bipush 12, 2) := by decide +kernel
theorem dX10_init_79 : decode cX10_init 79 = .ok (.iconst 0, 1) := by decide +kernel
theorem dX10_init_80 : decode cX10_init 80 = .ok (.iastore, 1) := by decide +kernel
theorem dX10_init_81 : decode cX10_init 81 = .ok (.dup, 1) := by decide +kernel
theorem dX10_init_82 : decode cX10_init 82 = .ok (.bipush 13, 2) := by decide +kernel
theorem dX10_init_84 : decode cX10_init 84 = .ok (.iconst 0, 1) := by decide +kernel
theorem dX10_init_85 : decode cX10_init 85 = .ok (.iastore, 1) := by decide +kernel
theorem dX10_init_86 : decode cX10_init 86 = .ok (.putfield 13, 3) := by decide +kernel
theorem dX10_init_89 : decode cX10_init 89 = .ok (.aload_n 0, 1) := by decide +kernel
theorem dX10_init_90 : decode cX10_init 90 = .ok (.bipush 12, 2) := by decide +kernel
theorem dX10_init_92 : decode cX10_init 92 = .ok (.newarray .int, 2) := by decide +kernel
theorem dX10_init_94 : decode cX10_init 94 = .ok (.putfield 16, 3) := by decide +kernel
theorem dX10_init_97 : decode cX10_init 97 = .ok (.aload_n 0, 1) := by decide +kernel
theorem dX10_init_98 : decode cX10_init 98 = .ok (.bipush 12, 2) := by decide +kernel
theorem dX10_init_100 : decode cX10_init 100 = .ok (.newarray .int, 2) := by decide +kernel
theorem dX10_init_102 : decode cX10_init 102 = .ok (.putfield 19, 3) := by decide +kernel
theorem dX10_init_105 : decode cX10_init 105 = .ok (.aload_n 0, 1) := by decide +kernel
theorem dX10_init_106 : decode cX10_init 106 = .ok (.bipush 12, 2) := by decide +kernel
theorem dX10_init_108 : decode cX10_init 108 = .ok (.newarray .int, 2) := by decide +kernel
theorem dX10_init_110 : decode cX10_init 110 = .ok (.putfield 22, 3) := by decide +kernel
theorem dX10_init_113 : decode cX10_init 113 = .ok (.aload_n 0, 1) := by decide +kernel
theorem dX10_init_114 : decode cX10_init 114 = .ok (.bipush 20, 2) := by decide +kernel
theorem dX10_init_116 : decode cX10_init 116 = .ok (.newarray .int, 2) := by decide +kernel
theorem dX10_init_118 : decode cX10_init 118 = .ok (.putfield 25, 3) := by decide +kernel
theorem dX10_init_121 : decode cX10_init 121 = .ok (.aload_n 0, 1) := by decide +kernel
theorem dX10_init_122 : decode cX10_init 122 = .ok (.bipush 20, 2) := by decide +kernel
theorem dX10_init_124 : decode cX10_init 124 = .ok (.newarray .int, 2) := by decide +kernel
theorem dX10_init_126 : decode cX10_init 126 = .ok (.putfield 28, 3) := by decide +kernel
theorem dX10_init_129 : decode cX10_init 129 = .ok (.aload_n 0, 1) := by decide +kernel
theorem dX10_init_130 : decode cX10_init 130 = .ok (.bipush 20, 2) := by decide +kernel
theorem dX10_init_132 : decode cX10_init 132 = .ok (.newarray .int, 2) := by decide +kernel
theorem dX10_init_134 : decode cX10_init 134 = .ok (.putfield 31, 3) := by decide +kernel
theorem dX10_init_137 : decode cX10_init 137 = .ok (.aload_n 0, 1) := by decide +kernel
theorem dX10_init_138 : decode cX10_init 138 = .ok (.bipush 20, 2) := by decide +kernel
theorem dX10_init_140 : decode cX10_init 140 = .ok (.newarray .int, 2) := by decide +kernel
theorem dX10_init_142 : decode cX10_init 142 = .ok (.putfield 34, 3) := by decide +kernel
theorem dX10_init_145 : decode cX10_init 145 = .ok (.aload_n 0, 1) := by decide +kernel
theorem dX10_init_146 : decode cX10_init 146 = .ok (.bipush 6, 2) := by decide +kernel
theorem dX10_init_148 : decode cX10_init 148 = .ok (.newarray .int, 2) := by decide +kernel
theorem dX10_init_150 : decode cX10_init 150 = .ok (.putfield 37, 3) := by decide +kernel
theorem dX10_init_153 : decode cX10_init 153 = .ok (.aload_n 0, 1) := by decide +kernel
theorem dX10_init_154 : decode cX10_init 154 = .ok (.bipush 6, 2) := by decide +kernel
theorem dX10_init_156 : decode cX10_init 156 = .ok (.newarray .int, 2) := by decide +kernel
theorem dX10_init_158 : decode cX10_init 158 = .ok (.putfield 40, 3) := by decide +kernel
theorem dX10_init_161 : decode cX10_init 161 = .ok (.aload_n 0, 1) := by decide +kernel
theorem dX10_init_162 : decode cX10_init 162 = .ok (.sipush 128, 3) := by decide +kernel
theorem dX10_init_165 : decode cX10_init 165 = .ok (.newarray .int, 2) := by decide +kernel
theorem dX10_init_167 : decode cX10_init 167 = .ok (.putfield 43, 3) := by decide +kernel
theorem dX10_init_170 : decode cX10_init 170 = .ok (.aload_n 0, 1) := by decide +kernel
theorem dX10_init_171 : decode cX10_init 171 = .ok (.sipush 128, 3) := by decide +kernel
theorem dX10_init_174 : decode cX10_init 174 = .ok (.newarray .int, 2) := by decide +kernel
theorem dX10_init_176 : decode cX10_init 176 = .ok (.putfield 46, 3) := by decide +kernel
theorem dX10_init_179 : decode cX10_init 179 = .ok (.aload_n 0, 1) := by decide +kernel
theorem dX10_init_180 : decode cX10_init 180 = .ok (.iconst (-1), 1) := by decide +kernel
theorem dX10_init_181 : decode cX10_init 181 = .ok (.putfield 49, 3) := by decide +kernel
theorem dX10_init_184 : decode cX10_init 184 = .ok (.aload_n 0, 1) := by decide +kernel
theorem dX10_init_185 : decode cX10_init 185 = .ok (.bipush 7, 2) := by decide +kernel
theorem dX10_init_187 : decode cX10_init 187 = .ok (.newarray .long, 2) := by decide +kernel
theorem dX10_init_189 : decode cX10_init 189 = .ok (.putfield 53, 3) := by decide +kernel
theorem dX10_init_192 : decode cX10_init 192 = .ok (.aload_n 0, 1) := by decide +kernel
theorem dX10_init_193 : decode cX10_init 193 = .ok (.bipush 64, 2) := by decide +kernel
theorem dX10_init_195 : decode cX10_init 195 = .ok (.newarray .long, 2) := by decide +kernel
theorem dX10_init_197 : decode cX10_init 197 = .ok (.putfield 57, 3) := by decide +kernel
theorem dX10_init_200 : decode cX10_init 200 = .ok (.aload_n 0, 1) := by decide +kernel
theorem dX10_init_201 : decode cX10_init 201 = .ok (.bipush 23, 2) := by decide +kernel
theorem dX10_init_203 : decode cX10_init 203 = .ok (.newarray .int, 2) := by decide +kernel
theorem dX10_init_205 : decode cX10_init 205 = .ok (.putfield 60, 3) := by decide +kernel
theorem dX10_init_208 : decode cX10_init 208 = .ok (.aload_n 0, 1) := by decide +kernel
theorem dX10_init_209 : decode cX10_init 209 = .ok (.bipush 23, 2) := by decide +kernel
theorem dX10_init_211 : decode cX10_init 211 = .ok (.newarray .int, 2) := by decide +kernel
theorem dX10_init_213 : decode cX10_init 213 = .ok (.putfield 63, 3) := by decide +kernel
theorem dX10_init_216 : decode cX10_init 216 = .ok (.aload_n 0, 1) := by decide +kernel
theorem dX10_init_217 : decode cX10_init 217 = .ok (.bipush 23, 2) := by decide +kernel
theorem dX10_init_219 : decode cX10_init 219 = .ok (.newarray .int, 2) := by decide +kernel
theorem dX10_init_221 : decode cX10_init 221 = .ok (.putfield 66, 3) := by decide +kernel
theorem dX10_init_224 : decode cX10_init 224 = .ok (.aload_n 0, 1) := by decide +kernel
theorem dX10_init_225 : decode cX10_init 225 = .ok (.bipush 46, 2) := by decide +kernel
theorem dX10_init_227 : decode cX10_init 227 = .ok (.newarray .int, 2) := by decide +kernel
theorem dX10_init_229 : decode cX10_init 229 = .ok (.putfield 69, 3) := by decide +kernel
theorem dX10_init_232 : decode cX10_init 232 = .ok (.aload_n 0, 1) := by decide +kernel
theorem dX10_init_233 : decode cX10_init 233 = .ok (.bipush 46, 2) := by decide +kernel
theorem dX10_init_235 : decode cX10_init 235 = .ok (.newarray .int, 2) := by decide +kernel
theorem dX10_init_237 : decode cX10_init 237 = .ok (.putfield 72, 3) := by decide +kernel
theorem dX10_init_240 : decode cX10_init 240 = .ok (.aload_n 0, 1) := by decide +kernel
theorem dX10_init_241 : decode cX10_init 241 = .ok (.sipush 230, 3) := by decide +kernel
theorem dX10_init_244 : decode cX10_init 244 = .ok (.newarray .int, 2) := by decide +kernel
theorem dX10_init_246 : decode cX10_init 246 = .ok (.putfield 75, 3) := by decide +kernel
theorem dX10_init_249 : decode cX10_init 249 = .ok (.aload_n 0, 1) := by decide +kernel
theorem dX10_init_250 : decode cX10_init 250 = .ok (.sipush 230, 3) := by decide +kernel
theorem dX10_init_253 : decode cX10_init 253 = .ok (.newarray .int, 2) := by decide +kernel
theorem dX10_init_255 : decode cX10_init 255 = .ok (.putfield 78, 3) := by decide +kernel
theorem dX10_init_258 : decode cX10_init 258 = .ok (.aload_n 0, 1) := by decide +kernel
theorem dX10_init_259 : decode cX10_init 259 = .ok (.sipush 230, 3) := by decide +kernel
theorem dX10_init_262 : decode cX10_init 262 = .ok (.newarray .int, 2) := by decide +kernel
theorem dX10_init_264 : decode cX10_init 264 = .ok (.putfield 81, 3) := by decide +kernel
theorem dX10_init_267 : decode cX10_init 267 = .ok (.aload_n 0, 1) := by decide +kernel
theorem dX10_init_268 : decode cX10_init 268 = .ok (.sipush 230, 3) := by decide +kernel
theorem dX10_init_271 : decode cX10_init 271 = .ok (.newarray .int, 2) := by decide +kernel
theorem dX10_init_273 : decode cX10_init 273 = .ok (.putfield 84, 3) := by decide +kernel
theorem dX10_init_276 : decode cX10_init 276 = .ok (.aload_n 0, 1) := by decide +kernel
theorem dX10_init_277 : decode cX10_init 277 = .ok (.iconst (-1), 1) := by decide +kernel
theorem dX10_init_278 : decode cX10_init 278 = .ok (.putfield 87, 3) := by decide +kernel
theorem dX10_init_281 : decode cX10_init 281 = .ok (.aload_n 0, 1) := by decide +kernel
theorem dX10_init_282 : decode cX10_init 282 = .ok (.iconst 4, 1) := by decide +kernel
theorem dX10_init_283 : decode cX10_init 283 = .ok (.newarray .int, 2) := by decide +kernel
theorem dX10_init_285 : decode cX10_init 285 = .ok (.putfield 90, 3) := by decide +kernel
theorem dX10_init_288 : decode cX10_init 288 = .ok (.aload_n 0, 1) := by decide +kernel
theorem dX10_init_289 : decode cX10_init 289 = .ok (.iconst 4, 1) := by decide +kernel
theorem dX10_init_290 : decode cX10_init 290 = .ok (.newarray .int, 2) := by decide +kernel
theorem dX10_init_292 : decode cX10_init 292 = .ok (.putfield 93, 3) := by decide +kernel
theorem dX10_init_295 : decode cX10_init 295 = .ok (.aload_n 0, 1) := by decide +kernel
theorem dX10_init_296 : decode cX10_init 296 = .ok (.iconst 4, 1) := by decide +kernel
theorem dX10_init_297 : decode cX10_init 297 = .ok (.newarray .int, 2) := by decide +kernel
theorem dX10_init_299 : decode cX10_init 299 = .ok (.putfield 96, 3) := by decide +kernel
theorem dX10_init_302 : decode cX10_init 302 = .ok (.aload_n 0, 1) := by decide +kernel
theorem dX10_init_303 : decode cX10_init 303 = .ok (.iconst (-1), 1) := by decide +kernel
theorem dX10_init_304 : decode cX10_init 304 = .ok (.putfield 99, 3) := by decide +kernel
theorem dX10_init_307 : decode cX10_init 307 = .ok (.aload_n 0, 1) := by decide +kernel
theorem dX10_init_308 : decode cX10_init 308 = .ok (.bipush 24, 2) := by decide +kernel
theorem dX10_init_310 : decode cX10_init 310 = .ok (.newarray .int, 2) := by decide +kernel
theorem dX10_init_312 : decode cX10_init 312 = .ok (.putfield 102, 3) := by decide +kernel
theorem dX10_init_315 : decode cX10_init 315 = .ok (.aload_n 0, 1) := by decide +kernel
theorem dX10_init_316 : decode cX10_init 316 = .ok (.bipush 24, 2) := by decide +kernel
theorem dX10_init_318 : decode cX10_init 318 = .ok (.newarray .int, 2) := by decide +kernel
theorem dX10_init_320 : decode cX10_init 320 = .ok (.putfield 105, 3) := by decide +kernel
theorem dX10_init_323 : decode cX10_init 323 = .ok (.aload_n 0, 1) := by decide +kernel
theorem dX10_init_324 : decode cX10_init 324 = .ok (.bipush 24, 2) := by decide +kernel
theorem dX10_init_326 : decode cX10_init 326 = .ok (.newarray .int, 2) := by decide +kernel
theorem dX10_init_328 : decode cX10_init 328 = .ok (.putfield 108, 3) := by decide +kernel
theorem dX10_init_331 : decode cX10_init 331 = .ok (.aload_n 0, 1) := by decide +kernel
theorem dX10_init_332 : decode cX10_init 332 = .ok (.bipush 24, 2) := by decide +kernel
theorem dX10_init_334 : decode cX10_init 334 = .ok (.newarray .boolean, 2) := by decide +kernel
theorem dX10_init_336 : decode cX10_init 336 = .ok (.putfield 111, 3) := by decide +kernel
theorem dX10_init_339 : decode cX10_init 339 = .ok (.aload_n 0, 1) := by decide +kernel
theorem dX10_init_340 : decode cX10_init 340 = .ok (.bipush 24, 2) := by decide +kernel
theorem dX10_init_342 : decode cX10_init 342 = .ok (.newarray .int, 2) := by decide +kernel
theorem dX10_init_344 : decode cX10_init 344 = .ok (.putfield 115, 3) := by decide +kernel
theorem dX10_init_347 : decode cX10_init 347 = .ok (.aload_n 0, 1) := by decide +kernel
theorem dX10_init_348 : decode cX10_init 348 = .ok (.bipush 24, 2) := by decide +kernel
theorem dX10_init_350 : decode cX10_init 350 = .ok (.newarray .boolean, 2) := by decide +kernel
theorem dX10_init_352 : decode cX10_init 352 = .ok (.putfield 118, 3) := by decide +kernel
theorem dX10_init_355 : decode cX10_init 355 = .ok (.aload_n 0, 1) := by decide +kernel
theorem dX10_init_356 : decode cX10_init 356 = .ok (.invokevirtual 121, 3) := by decide +kernel
theorem dX10_init_359 : decode cX10_init 359 = .ok (.return_, 1) := by decide +kernel
theorem dX10_thrown_0 : decode cX10_thrown 0 = .ok (.aload_n 0, 1) := by decide +kernel
theorem dX10_thrown_1 : decode cX10_thrown 1 = .ok (.getfield 124, 3) := by decide +kernel
theorem dX10_thrown_4 : decode cX10_thrown 4 = .ok (.ireturn, 1) := by decide +kernel
theorem dX10_feed_0 : decode cX10_feed 0 = .ok (.aload_n 0, 1) := by decide +kernel
theorem dX10_feed_1 : decode cX10_feed 1 = .ok (.iconst 0, 1) := by decide +kernel
theorem dX10_feed_2 : decode cX10_feed 2 = .ok (.putfield 124, 3) := by decide +kernel
theorem dX10_feed_5 : decode cX10_feed 5 = .ok (.aload_n 0, 1) := by decide +kernel
theorem dX10_feed_6 : decode cX10_feed 6 = .ok (.getfield 127, 3) := by decide +kernel
theorem dX10_feed_9 : decode cX10_feed 9 = .ok (.sipush 680, 3) := by decide +kernel
theorem dX10_feed_12 : decode cX10_feed 12 = .ok (.if_icmp .le 5, 3) := by decide +kernel
theorem dX10_feed_15 : decode cX10_feed 15 = .ok (.iconst (-1), 1) := by decide +kernel
theorem dX10_feed_16 : decode cX10_feed 16 = .ok (.ireturn, 1) := by decide +kernel
theorem dX10_feed_17 : decode cX10_feed 17 = .ok (.iconst 0, 1) := by decide +kernel
theorem dX10_feed_18 : decode cX10_feed 18 = .ok (.istore 6, 2) := by decide +kernel
theorem dX10_feed_20 : decode cX10_feed 20 = .ok (.iload 6, 2) := by decide +kernel
theorem dX10_feed_22 : decode cX10_feed 22 = .ok (.bipush 20, 2) := by decide +kernel
theorem dX10_feed_24 : decode cX10_feed 24 = .ok (.if_icmp .ge 86, 3) := by decide +kernel
theorem dX10_feed_27 : decode cX10_feed 27 = .ok (.iload 6, 2) := by decide +kernel
theorem dX10_feed_29 : decode cX10_feed 29 = .ok (.iconst 4, 1) := by decide +kernel
theorem dX10_feed_30 : decode cX10_feed 30 = .ok (.if_icmp .ge 7, 3) := by decide +kernel
theorem dX10_feed_33 : decode cX10_feed 33 = .ok (.iload_n 1, 1) := by decide +kernel
theorem dX10_feed_34 : decode cX10_feed 34 = .ok (.goto 39, 3) := by decide +kernel
theorem dX10_feed_37 : decode cX10_feed 37 = .ok (.iload 6, 2) := by decide +kernel
theorem dX10_feed_39 : decode cX10_feed 39 = .ok (.bipush 8, 2) := by decide +kernel
theorem dX10_feed_41 : decode cX10_feed 41 = .ok (.if_icmp .ge 7, 3) := by decide +kernel
theorem dX10_feed_44 : decode cX10_feed 44 = .ok (.iload_n 2, 1) := by decide +kernel
theorem dX10_feed_45 : decode cX10_feed 45 = .ok (.goto 28, 3) := by decide +kernel
theorem dX10_feed_48 : decode cX10_feed 48 = .ok (.iload 6, 2) := by decide +kernel
theorem dX10_feed_50 : decode cX10_feed 50 = .ok (.bipush 12, 2) := by decide +kernel
theorem dX10_feed_52 : decode cX10_feed 52 = .ok (.if_icmp .ge 7, 3) := by decide +kernel
theorem dX10_feed_55 : decode cX10_feed 55 = .ok (.iload_n 3, 1) := by decide +kernel
theorem dX10_feed_56 : decode cX10_feed 56 = .ok (.goto 17, 3) := by decide +kernel
theorem dX10_feed_59 : decode cX10_feed 59 = .ok (.iload 6, 2) := by decide +kernel
theorem dX10_feed_61 : decode cX10_feed 61 = .ok (.bipush 16, 2) := by decide +kernel
theorem dX10_feed_63 : decode cX10_feed 63 = .ok (.if_icmp .ge 8, 3) := by decide +kernel
theorem dX10_feed_66 : decode cX10_feed 66 = .ok (.iload 4, 2) := by decide +kernel
theorem dX10_feed_68 : decode cX10_feed 68 = .ok (.goto 5, 3) := by decide +kernel
theorem dX10_feed_71 : decode cX10_feed 71 = .ok (.iload 5, 2) := by decide +kernel
theorem dX10_feed_73 : decode cX10_feed 73 = .ok (.istore 7, 2) := by decide +kernel
theorem dX10_feed_75 : decode cX10_feed 75 = .ok (.aload_n 0, 1) := by decide +kernel
theorem dX10_feed_76 : decode cX10_feed 76 = .ok (.getfield 7, 3) := by decide +kernel
theorem dX10_feed_79 : decode cX10_feed 79 = .ok (.aload_n 0, 1) := by decide +kernel
theorem dX10_feed_80 : decode cX10_feed 80 = .ok (.getfield 127, 3) := by decide +kernel
theorem dX10_feed_83 : decode cX10_feed 83 = .ok (.iload 6, 2) := by decide +kernel
theorem dX10_feed_85 : decode cX10_feed 85 = .ok (.iadd, 1) := by decide +kernel
theorem dX10_feed_86 : decode cX10_feed 86 = .ok (.iload 7, 2) := by decide +kernel
theorem dX10_feed_88 : decode cX10_feed 88 = .ok (.bipush 24, 2) := by decide +kernel
theorem dX10_feed_90 : decode cX10_feed 90 = .ok (.bipush 8, 2) := by decide +kernel
theorem dX10_feed_92 : decode cX10_feed 92 = .ok (.iload 6, 2) := by decide +kernel
theorem dX10_feed_94 : decode cX10_feed 94 = .ok (.iconst 4, 1) := by decide +kernel
theorem dX10_feed_95 : decode cX10_feed 95 = .ok (.irem, 1) := by decide +kernel
theorem dX10_feed_96 : decode cX10_feed 96 = .ok (.imul, 1) := by decide +kernel
theorem dX10_feed_97 : decode cX10_feed 97 = .ok (.isub, 1) := by decide +kernel
theorem dX10_feed_98 : decode cX10_feed 98 = .ok (.ishr, 1) := by decide +kernel
theorem dX10_feed_99 : decode cX10_feed 99 = .ok (.sipush 255, 3) := by decide +kernel
theorem dX10_feed_102 : decode cX10_feed 102 = .ok (.iand, 1) := by decide +kernel
theorem dX10_feed_103 : decode cX10_feed 103 = .ok (.iastore, 1) := by decide +kernel
theorem dX10_feed_104 : decode cX10_feed 104 = .ok (.iinc 6 1, 3) := by decide +kernel
theorem dX10_feed_107 : decode cX10_feed 107 = .ok (.goto (-87), 3) := by decide +kernel
theorem dX10_feed_110 : decode cX10_feed 110 = .ok (.aload_n 0, 1) := by decide +kernel
theorem dX10_feed_111 : decode cX10_feed 111 = .ok (.dup, 1) := by decide +kernel
theorem dX10_feed_112 : decode cX10_feed 112 = .ok (.getfield 127, 3) := by decide +kernel
theorem dX10_feed_115 : decode cX10_feed 115 = .ok (.bipush 20, 2) := by decide +kernel
theorem dX10_feed_117 : decode cX10_feed 117 = .ok (.iadd, 1) := by decide +kernel
theorem dX10_feed_118 : decode cX10_feed 118 = .ok (.putfield 127, 3) := by decide +kernel
theorem dX10_feed_121 : decode cX10_feed 121 = .ok (.aload_n 0, 1) := by decide +kernel
theorem dX10_feed_122 : decode cX10_feed 122 = .ok (.getfield 127, 3) := by decide +kernel
theorem dX10_feed_125 : decode cX10_feed 125 = .ok (.ireturn, 1) := by decide +kernel
theorem dX10_here_0 : decode cX10_here 0 = .ok (.aload_n 0, 1) := by decide +kernel
theorem dX10_here_1 : decode cX10_here 1 = .ok (.getfield 130, 3) := by decide +kernel
theorem dX10_here_4 : decode cX10_here 4 = .ok (.aload_n 0, 1) := by decide +kernel
theorem dX10_here_5 : decode cX10_here 5 = .ok (.getfield 133, 3) := by decide +kernel
theorem dX10_here_8 : decode cX10_here 8 = .ok (.if_icmp .ge 15, 3) := by decide +kernel
theorem dX10_here_11 : decode cX10_here 11 = .ok (.aload_n 0, 1) := by decide +kernel
theorem dX10_here_12 : decode cX10_here 12 = .ok (.getfield 7, 3) := by decide +kernel
theorem dX10_here_15 : decode cX10_here 15 = .ok (.aload_n 0, 1) := by decide +kernel
theorem dX10_here_16 : decode cX10_here 16 = .ok (.getfield 130, 3) := by decide +kernel
theorem dX10_here_19 : decode cX10_here 19 = .ok (.iaload, 1) := by decide +kernel
theorem dX10_here_20 : decode cX10_here 20 = .ok (.goto 4, 3) := by decide +kernel
theorem dX10_here_23 : decode cX10_here 23 = .ok (.iconst (-1), 1) := by decide +kernel
theorem dX10_here_24 : decode cX10_here 24 = .ok (.ireturn, 1) := by decide +kernel
theorem dX10_isSmall_0 : decode cX10_isSmall 0 = .ok (.iload_n 0, 1) := by decide +kernel
theorem dX10_isSmall_1 : decode cX10_isSmall 1 = .ok (.bipush 97, 2) := by decide +kernel
theorem dX10_isSmall_3 : decode cX10_isSmall 3 = .ok (.if_icmp .lt 13, 3) := by decide +kernel
theorem dX10_isSmall_6 : decode cX10_isSmall 6 = .ok (.iload_n 0, 1) := by decide +kernel
theorem dX10_isSmall_7 : decode cX10_isSmall 7 = .ok (.bipush 122, 2) := by decide +kernel
theorem dX10_isSmall_9 : decode cX10_isSmall 9 = .ok (.if_icmp .gt 7, 3) := by decide +kernel
theorem dX10_isSmall_12 : decode cX10_isSmall 12 = .ok (.iconst 1, 1) := by decide +kernel
theorem dX10_isSmall_13 : decode cX10_isSmall 13 = .ok (.goto 4, 3) := by decide +kernel
theorem dX10_isSmall_16 : decode cX10_isSmall 16 = .ok (.iconst 0, 1) := by decide +kernel
theorem dX10_isSmall_17 : decode cX10_isSmall 17 = .ok (.ireturn, 1) := by decide +kernel
theorem dX10_isDigit_0 : decode cX10_isDigit 0 = .ok (.iload_n 0, 1) := by decide +kernel
theorem dX10_isDigit_1 : decode cX10_isDigit 1 = .ok (.bipush 48, 2) := by decide +kernel
theorem dX10_isDigit_3 : decode cX10_isDigit 3 = .ok (.if_icmp .lt 13, 3) := by decide +kernel
theorem dX10_isDigit_6 : decode cX10_isDigit 6 = .ok (.iload_n 0, 1) := by decide +kernel
theorem dX10_isDigit_7 : decode cX10_isDigit 7 = .ok (.bipush 57, 2) := by decide +kernel
theorem dX10_isDigit_9 : decode cX10_isDigit 9 = .ok (.if_icmp .gt 7, 3) := by decide +kernel
theorem dX10_isDigit_12 : decode cX10_isDigit 12 = .ok (.iconst 1, 1) := by decide +kernel
theorem dX10_isDigit_13 : decode cX10_isDigit 13 = .ok (.goto 4, 3) := by decide +kernel
theorem dX10_isDigit_16 : decode cX10_isDigit 16 = .ok (.iconst 0, 1) := by decide +kernel
theorem dX10_isDigit_17 : decode cX10_isDigit 17 = .ok (.ireturn, 1) := by decide +kernel
theorem dX10_token_0 : decode cX10_token 0 = .ok (.aload_n 0, 1) := by decide +kernel
theorem dX10_token_1 : decode cX10_token 1 = .ok (.invokevirtual 136, 3) := by decide +kernel
theorem dX10_token_4 : decode cX10_token 4 = .ok (.bipush 10, 2) := by decide +kernel
theorem dX10_token_6 : decode cX10_token 6 = .ok (.if_icmp .eq 12, 3) := by decide +kernel
theorem dX10_token_9 : decode cX10_token 9 = .ok (.aload_n 0, 1) := by decide +kernel
theorem dX10_token_10 : decode cX10_token 10 = .ok (.invokevirtual 136, 3) := by decide +kernel
theorem dX10_token_13 : decode cX10_token 13 = .ok (.bipush 32, 2) := by decide +kernel
theorem dX10_token_15 : decode cX10_token 15 = .ok (.if_icmp .ne 16, 3) := by decide +kernel
theorem dX10_token_18 : decode cX10_token 18 = .ok (.aload_n 0, 1) := by decide +kernel
theorem dX10_token_19 : decode cX10_token 19 = .ok (.dup, 1) := by decide +kernel
theorem dX10_token_20 : decode cX10_token 20 = .ok (.getfield 130, 3) := by decide +kernel
theorem dX10_token_23 : decode cX10_token 23 = .ok (.iconst 1, 1) := by decide +kernel
theorem dX10_token_24 : decode cX10_token 24 = .ok (.iadd, 1) := by decide +kernel
theorem dX10_token_25 : decode cX10_token 25 = .ok (.putfield 130, 3) := by decide +kernel
theorem dX10_token_28 : decode cX10_token 28 = .ok (.goto (-28), 3) := by decide +kernel
theorem dX10_token_31 : decode cX10_token 31 = .ok (.aload_n 0, 1) := by decide +kernel
theorem dX10_token_32 : decode cX10_token 32 = .ok (.aload_n 0, 1) := by decide +kernel
theorem dX10_token_33 : decode cX10_token 33 = .ok (.getfield 130, 3) := by decide +kernel
theorem dX10_token_36 : decode cX10_token 36 = .ok (.putfield 140, 3) := by decide +kernel
theorem dX10_token_39 : decode cX10_token 39 = .ok (.aload_n 0, 1) := by decide +kernel
theorem dX10_token_40 : decode cX10_token 40 = .ok (.invokevirtual 136, 3) := by decide +kernel
theorem dX10_token_43 : decode cX10_token 43 = .ok (.istore_n 1, 1) := by decide +kernel
theorem dX10_token_44 : decode cX10_token 44 = .ok (.iload_n 1, 1) := by decide +kernel
theorem dX10_token_45 : decode cX10_token 45 = .ok (.iconst (-1), 1) := by decide +kernel
theorem dX10_token_46 : decode cX10_token 46 = .ok (.if_icmp .ne 11, 3) := by decide +kernel
theorem dX10_token_49 : decode cX10_token 49 = .ok (.aload_n 0, 1) := by decide +kernel
theorem dX10_token_50 : decode cX10_token 50 = .ok (.iconst 4, 1) := by decide +kernel
theorem dX10_token_51 : decode cX10_token 51 = .ok (.putfield 143, 3) := by decide +kernel
theorem dX10_token_54 : decode cX10_token 54 = .ok (.goto 171, 3) := by decide +kernel
theorem dX10_token_57 : decode cX10_token 57 = .ok (.iload_n 1, 1) := by decide +kernel
theorem dX10_token_58 : decode cX10_token 58 = .ok (.invokestatic 146, 3) := by decide +kernel
theorem dX10_token_61 : decode cX10_token 61 = .ok (.ifCond .eq 84, 3) := by decide +kernel
theorem dX10_token_64 : decode cX10_token 64 = .ok (.aload_n 0, 1) := by decide +kernel
theorem dX10_token_65 : decode cX10_token 65 = .ok (.invokevirtual 136, 3) := by decide +kernel
theorem dX10_token_68 : decode cX10_token 68 = .ok (.invokestatic 146, 3) := by decide +kernel
theorem dX10_token_71 : decode cX10_token 71 = .ok (.ifCond .eq 16, 3) := by decide +kernel
theorem dX10_token_74 : decode cX10_token 74 = .ok (.aload_n 0, 1) := by decide +kernel
theorem dX10_token_75 : decode cX10_token 75 = .ok (.dup, 1) := by decide +kernel
theorem dX10_token_76 : decode cX10_token 76 = .ok (.getfield 130, 3) := by decide +kernel
theorem dX10_token_79 : decode cX10_token 79 = .ok (.iconst 1, 1) := by decide +kernel
theorem dX10_token_80 : decode cX10_token 80 = .ok (.iadd, 1) := by decide +kernel
theorem dX10_token_81 : decode cX10_token 81 = .ok (.putfield 130, 3) := by decide +kernel
theorem dX10_token_84 : decode cX10_token 84 = .ok (.goto (-20), 3) := by decide +kernel
theorem dX10_token_87 : decode cX10_token 87 = .ok (.aload_n 0, 1) := by decide +kernel
theorem dX10_token_88 : decode cX10_token 88 = .ok (.aload_n 0, 1) := by decide +kernel
theorem dX10_token_89 : decode cX10_token 89 = .ok (.invokevirtual 150, 3) := by decide +kernel
theorem dX10_token_92 : decode cX10_token 92 = .ok (.putfield 153, 3) := by decide +kernel
theorem dX10_token_95 : decode cX10_token 95 = .ok (.aload_n 0, 1) := by decide +kernel
theorem dX10_token_96 : decode cX10_token 96 = .ok (.aload_n 0, 1) := by decide +kernel
theorem dX10_token_97 : decode cX10_token 97 = .ok (.getfield 153, 3) := by decide +kernel
theorem dX10_token_100 : decode cX10_token 100 = .ok (.iconst (-1), 1) := by decide +kernel
theorem dX10_token_101 : decode cX10_token 101 = .ok (.if_icmp .eq 7, 3) := by decide +kernel
theorem dX10_token_104 : decode cX10_token 104 = .ok (.iconst 0, 1) := by decide +kernel
theorem dX10_token_105 : decode cX10_token 105 = .ok (.goto 22, 3) := by decide +kernel
theorem dX10_token_108 : decode cX10_token 108 = .ok (.aload_n 0, 1) := by decide +kernel
theorem dX10_token_109 : decode cX10_token 109 = .ok (.getfield 130, 3) := by decide +kernel
theorem dX10_token_112 : decode cX10_token 112 = .ok (.aload_n 0, 1) := by decide +kernel
theorem dX10_token_113 : decode cX10_token 113 = .ok (.getfield 140, 3) := by decide +kernel
theorem dX10_token_116 : decode cX10_token 116 = .ok (.isub, 1) := by decide +kernel
theorem dX10_token_117 : decode cX10_token 117 = .ok (.bipush 6, 2) := by decide +kernel
theorem dX10_token_119 : decode cX10_token 119 = .ok (.if_icmp .le 7, 3) := by decide +kernel
theorem dX10_token_122 : decode cX10_token 122 = .ok (.iconst 5, 1) := by decide +kernel
theorem dX10_token_123 : decode cX10_token 123 = .ok (.goto 4, 3) := by decide +kernel
theorem dX10_token_126 : decode cX10_token 126 = .ok (.iconst 1, 1) := by decide +kernel
theorem dX10_token_127 : decode cX10_token 127 = .ok (.putfield 143, 3) := by decide +kernel
theorem dX10_token_130 : decode cX10_token 130 = .ok (.aload_n 0, 1) := by decide +kernel
theorem dX10_token_131 : decode cX10_token 131 = .ok (.getfield 143, 3) := by decide +kernel
theorem dX10_token_134 : decode cX10_token 134 = .ok (.iconst 1, 1) := by decide +kernel
theorem dX10_token_135 : decode cX10_token 135 = .ok (.if_icmp .ne 90, 3) := by decide +kernel
theorem dX10_token_138 : decode cX10_token 138 = .ok (.aload_n 0, 1) := by decide +kernel
theorem dX10_token_139 : decode cX10_token 139 = .ok (.invokevirtual 156, 3) := by decide +kernel
theorem dX10_token_142 : decode cX10_token 142 = .ok (.goto 83, 3) := by decide +kernel
theorem dX10_token_145 : decode cX10_token 145 = .ok (.iload_n 1, 1) := by decide +kernel
theorem dX10_token_146 : decode cX10_token 146 = .ok (.invokestatic 159, 3) := by decide +kernel
theorem dX10_token_149 : decode cX10_token 149 = .ok (.ifCond .eq 71, 3) := by decide +kernel
theorem dX10_token_152 : decode cX10_token 152 = .ok (.aload_n 0, 1) := by decide +kernel
theorem dX10_token_153 : decode cX10_token 153 = .ok (.iconst 2, 1) := by decide +kernel
theorem dX10_token_154 : decode cX10_token 154 = .ok (.putfield 143, 3) := by decide +kernel
theorem dX10_token_157 : decode cX10_token 157 = .ok (.aload_n 0, 1) := by decide +kernel
theorem dX10_token_158 : decode cX10_token 158 = .ok (.iconst 0, 1) := by decide +kernel
theorem dX10_token_159 : decode cX10_token 159 = .ok (.putfield 153, 3) := by decide +kernel
theorem dX10_token_162 : decode cX10_token 162 = .ok (.aload_n 0, 1) := by decide +kernel
theorem dX10_token_163 : decode cX10_token 163 = .ok (.invokevirtual 136, 3) := by decide +kernel
theorem dX10_token_166 : decode cX10_token 166 = .ok (.invokestatic 159, 3) := by decide +kernel
theorem dX10_token_169 : decode cX10_token 169 = .ok (.ifCond .eq 56, 3) := by decide +kernel
theorem dX10_token_172 : decode cX10_token 172 = .ok (.aload_n 0, 1) := by decide +kernel
theorem dX10_token_173 : decode cX10_token 173 = .ok (.aload_n 0, 1) := by decide +kernel
theorem dX10_token_174 : decode cX10_token 174 = .ok (.getfield 153, 3) := by decide +kernel
theorem dX10_token_177 : decode cX10_token 177 = .ok (.ldc 162, 2) := by decide +kernel
theorem dX10_token_179 : decode cX10_token 179 = .ok (.if_icmp .le 10, 3) := by decide +kernel
theorem dX10_token_182 : decode cX10_token 182 = .ok (.aload_n 0, 1) := by decide +kernel
theorem dX10_token_183 : decode cX10_token 183 = .ok (.getfield 153, 3) := by decide +kernel
theorem dX10_token_186 : decode cX10_token 186 = .ok (.goto 18, 3) := by decide +kernel
theorem dX10_token_189 : decode cX10_token 189 = .ok (.bipush 10, 2) := by decide +kernel
theorem dX10_token_191 : decode cX10_token 191 = .ok (.aload_n 0, 1) := by decide +kernel
theorem dX10_token_192 : decode cX10_token 192 = .ok (.getfield 153, 3) := by decide +kernel
theorem dX10_token_195 : decode cX10_token 195 = .ok (.imul, 1) := by decide +kernel
theorem dX10_token_196 : decode cX10_token 196 = .ok (.aload_n 0, 1) := by decide +kernel
theorem dX10_token_197 : decode cX10_token 197 = .ok (.invokevirtual 136, 3) := by decide +kernel
theorem dX10_token_200 : decode cX10_token 200 = .ok (.iadd, 1) := by decide +kernel
theorem dX10_token_201 : decode cX10_token 201 = .ok (.bipush 48, 2) := by decide +kernel
theorem dX10_token_203 : decode cX10_token 203 = .ok (.isub, 1) := by decide +kernel
theorem dX10_token_204 : decode cX10_token 204 = .ok (.putfield 153, 3) := by decide +kernel
theorem dX10_token_207 : decode cX10_token 207 = .ok (.aload_n 0, 1) := by decide +kernel
theorem dX10_token_208 : decode cX10_token 208 = .ok (.dup, 1) := by decide +kernel
theorem dX10_token_209 : decode cX10_token 209 = .ok (.getfield 130, 3) := by decide +kernel
theorem dX10_token_212 : decode cX10_token 212 = .ok (.iconst 1, 1) := by decide +kernel
theorem dX10_token_213 : decode cX10_token 213 = .ok (.iadd, 1) := by decide +kernel
theorem dX10_token_214 : decode cX10_token 214 = .ok (.putfield 130, 3) := by decide +kernel
theorem dX10_token_217 : decode cX10_token 217 = .ok (.goto (-55), 3) := by decide +kernel
theorem dX10_token_220 : decode cX10_token 220 = .ok (.aload_n 0, 1) := by decide +kernel
theorem dX10_token_221 : decode cX10_token 221 = .ok (.iload_n 1, 1) := by decide +kernel
theorem dX10_token_222 : decode cX10_token 222 = .ok (.invokevirtual 163, 3) := by decide +kernel
theorem dX10_token_225 : decode cX10_token 225 = .ok (.return_, 1) := by decide +kernel
theorem dX10_sign_0 : decode cX10_sign 0 = .ok (.aload_n 0, 1) := by decide +kernel
theorem dX10_sign_1 : decode cX10_sign 1 = .ok (.dup, 1) := by decide +kernel
theorem dX10_sign_2 : decode cX10_sign 2 = .ok (.getfield 130, 3) := by decide +kernel
theorem dX10_sign_5 : decode cX10_sign 5 = .ok (.iconst 1, 1) := by decide +kernel
theorem dX10_sign_6 : decode cX10_sign 6 = .ok (.iadd, 1) := by decide +kernel
theorem dX10_sign_7 : decode cX10_sign 7 = .ok (.putfield 130, 3) := by decide +kernel
theorem dX10_sign_10 : decode cX10_sign 10 = .ok (.aload_n 0, 1) := by decide +kernel
theorem dX10_sign_11 : decode cX10_sign 11 = .ok (.iload_n 1, 1) := by decide +kernel
theorem dX10_sign_12 : decode cX10_sign 12 = .ok (.bipush 59, 2) := by decide +kernel
theorem dX10_sign_14 : decode cX10_sign 14 = .ok (.if_icmp .eq 57, 3) := by decide +kernel
theorem dX10_sign_17 : decode cX10_sign 17 = .ok (.iload_n 1, 1) := by decide +kernel
theorem dX10_sign_18 : decode cX10_sign 18 = .ok (.bipush 40, 2) := by decide +kernel
theorem dX10_sign_20 : decode cX10_sign 20 = .ok (.if_icmp .eq 51, 3) := by decide +kernel
theorem dX10_sign_23 : decode cX10_sign 23 = .ok (.iload_n 1, 1) := by decide +kernel
theorem dX10_sign_24 : decode cX10_sign 24 = .ok (.bipush 41, 2) := by decide +kernel
theorem dX10_sign_26 : decode cX10_sign 26 = .ok (.if_icmp .eq 45, 3) := by decide +kernel
theorem dX10_sign_29 : decode cX10_sign 29 = .ok (.iload_n 1, 1) := by decide +kernel
theorem dX10_sign_30 : decode cX10_sign 30 = .ok (.bipush 43, 2) := by decide +kernel
theorem dX10_sign_32 : decode cX10_sign 32 = .ok (.if_icmp .eq 39, 3) := by decide +kernel
theorem dX10_sign_35 : decode cX10_sign 35 = .ok (.iload_n 1, 1) := by decide +kernel
theorem dX10_sign_36 : decode cX10_sign 36 = .ok (.bipush 45, 2) := by decide +kernel
theorem dX10_sign_38 : decode cX10_sign 38 = .ok (.if_icmp .eq 33, 3) := by decide +kernel
theorem dX10_sign_41 : decode cX10_sign 41 = .ok (.iload_n 1, 1) := by decide +kernel
theorem dX10_sign_42 : decode cX10_sign 42 = .ok (.bipush 42, 2) := by decide +kernel
theorem dX10_sign_44 : decode cX10_sign 44 = .ok (.if_icmp .eq 27, 3) := by decide +kernel
theorem dX10_sign_47 : decode cX10_sign 47 = .ok (.iload_n 1, 1) := by decide +kernel
theorem dX10_sign_48 : decode cX10_sign 48 = .ok (.bipush 47, 2) := by decide +kernel
theorem dX10_sign_50 : decode cX10_sign 50 = .ok (.if_icmp .eq 21, 3) := by decide +kernel
theorem dX10_sign_53 : decode cX10_sign 53 = .ok (.iload_n 1, 1) := by decide +kernel
theorem dX10_sign_54 : decode cX10_sign 54 = .ok (.bipush 60, 2) := by decide +kernel
theorem dX10_sign_56 : decode cX10_sign 56 = .ok (.if_icmp .eq 15, 3) := by decide +kernel
theorem dX10_sign_59 : decode cX10_sign 59 = .ok (.iload_n 1, 1) := by decide +kernel
theorem dX10_sign_60 : decode cX10_sign 60 = .ok (.bipush 61, 2) := by decide +kernel
theorem dX10_sign_62 : decode cX10_sign 62 = .ok (.if_icmp .eq 9, 3) := by decide +kernel
theorem dX10_sign_65 : decode cX10_sign 65 = .ok (.iload_n 1, 1) := by decide +kernel
theorem dX10_sign_66 : decode cX10_sign 66 = .ok (.bipush 62, 2) := by decide +kernel
theorem dX10_sign_68 : decode cX10_sign 68 = .ok (.if_icmp .ne 7, 3) := by decide +kernel
theorem dX10_sign_71 : decode cX10_sign 71 = .ok (.iconst 3, 1) := by decide +kernel
theorem dX10_sign_72 : decode cX10_sign 72 = .ok (.goto 4, 3) := by decide +kernel
theorem dX10_sign_75 : decode cX10_sign 75 = .ok (.iconst 5, 1) := by decide +kernel
theorem dX10_sign_76 : decode cX10_sign 76 = .ok (.putfield 143, 3) := by decide +kernel
theorem dX10_sign_79 : decode cX10_sign 79 = .ok (.aload_n 0, 1) := by decide +kernel
theorem dX10_sign_80 : decode cX10_sign 80 = .ok (.iload_n 1, 1) := by decide +kernel
theorem dX10_sign_81 : decode cX10_sign 81 = .ok (.putfield 153, 3) := by decide +kernel
theorem dX10_sign_84 : decode cX10_sign 84 = .ok (.iload_n 1, 1) := by decide +kernel
theorem dX10_sign_85 : decode cX10_sign 85 = .ok (.bipush 60, 2) := by decide +kernel
theorem dX10_sign_87 : decode cX10_sign 87 = .ok (.if_icmp .ne 19, 3) := by decide +kernel
theorem dX10_sign_90 : decode cX10_sign 90 = .ok (.aload_n 0, 1) := by decide +kernel
theorem dX10_sign_91 : decode cX10_sign 91 = .ok (.invokevirtual 136, 3) := by decide +kernel
theorem dX10_sign_94 : decode cX10_sign 94 = .ok (.bipush 61, 2) := by decide +kernel
theorem dX10_sign_96 : decode cX10_sign 96 = .ok (.if_icmp .ne 10, 3) := by decide +kernel
theorem dX10_sign_99 : decode cX10_sign 99 = .ok (.aload_n 0, 1) := by decide +kernel
theorem dX10_sign_100 : decode cX10_sign 100 = .ok (.sipush 256, 3) := by decide +kernel
theorem dX10_sign_103 : decode cX10_sign 103 = .ok (.putfield 153, 3) := by decide +kernel
theorem dX10_sign_106 : decode cX10_sign 106 = .ok (.iload_n 1, 1) := by decide +kernel
theorem dX10_sign_107 : decode cX10_sign 107 = .ok (.bipush 60, 2) := by decide +kernel
theorem dX10_sign_109 : decode cX10_sign 109 = .ok (.if_icmp .ne 19, 3) := by decide +kernel
theorem dX10_sign_112 : decode cX10_sign 112 = .ok (.aload_n 0, 1) := by decide +kernel
theorem dX10_sign_113 : decode cX10_sign 113 = .ok (.invokevirtual 136, 3) := by decide +kernel
