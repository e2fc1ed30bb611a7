theorem dX10_sign_116 : decode cX10_sign 116 = .ok (.bipush 62, 2) := by decide +kernel
theorem dX10_sign_118 : decode cX10_sign 118 = .ok (.if_icmp .ne 10, 3) := by decide +kernel
theorem dX10_sign_121 : decode cX10_sign 121 = .ok (.aload_n 0, 1) := by decide +kernel
theorem dX10_sign_122 : decode cX10_sign 122 = .ok (.sipush 257, 3) := by decide +kernel
theorem dX10_sign_125 : decode cX10_sign 125 = .ok (.putfield 153, 3) := by decide +kernel
theorem dX10_sign_128 : decode cX10_sign 128 = .ok (.iload_n 1, 1) := by decide +kernel
theorem dX10_sign_129 : decode cX10_sign 129 = .ok (.bipush 62, 2) := by decide +kernel
theorem dX10_sign_131 : decode cX10_sign 131 = .ok (.if_icmp .ne 19, 3) := by decide +kernel
theorem dX10_sign_134 : decode cX10_sign 134 = .ok (.aload_n 0, 1) := by decide +kernel
theorem dX10_sign_135 : decode cX10_sign 135 = .ok (.invokevirtual 136, 3) := by decide +kernel
theorem dX10_sign_138 : decode cX10_sign 138 = .ok (.bipush 61, 2) := by decide +kernel
theorem dX10_sign_140 : decode cX10_sign 140 = .ok (.if_icmp .ne 10, 3) := by decide +kernel
theorem dX10_sign_143 : decode cX10_sign 143 = .ok (.aload_n 0, 1) := by decide +kernel
theorem dX10_sign_144 : decode cX10_sign 144 = .ok (.sipush 258, 3) := by decide +kernel
theorem dX10_sign_147 : decode cX10_sign 147 = .ok (.putfield 153, 3) := by decide +kernel
theorem dX10_sign_150 : decode cX10_sign 150 = .ok (.aload_n 0, 1) := by decide +kernel
theorem dX10_sign_151 : decode cX10_sign 151 = .ok (.getfield 153, 3) := by decide +kernel
theorem dX10_sign_154 : decode cX10_sign 154 = .ok (.sipush 256, 3) := by decide +kernel
theorem dX10_sign_157 : decode cX10_sign 157 = .ok (.if_icmp .lt 13, 3) := by decide +kernel
theorem dX10_sign_160 : decode cX10_sign 160 = .ok (.aload_n 0, 1) := by decide +kernel
theorem dX10_sign_161 : decode cX10_sign 161 = .ok (.dup, 1) := by decide +kernel
theorem dX10_sign_162 : decode cX10_sign 162 = .ok (.getfield 130, 3) := by decide +kernel
theorem dX10_sign_165 : decode cX10_sign 165 = .ok (.iconst 1, 1) := by decide +kernel
theorem dX10_sign_166 : decode cX10_sign 166 = .ok (.iadd, 1) := by decide +kernel
theorem dX10_sign_167 : decode cX10_sign 167 = .ok (.putfield 130, 3) := by decide +kernel
theorem dX10_sign_170 : decode cX10_sign 170 = .ok (.return_, 1) := by decide +kernel
theorem dX10_word_0 : decode cX10_word 0 = .ok (.iconst 0, 1) := by decide +kernel
theorem dX10_word_1 : decode cX10_word 1 = .ok (.istore_n 1, 1) := by decide +kernel
theorem dX10_word_2 : decode cX10_word 2 = .ok (.iconst 0, 1) := by decide +kernel
theorem dX10_word_3 : decode cX10_word 3 = .ok (.istore_n 2, 1) := by decide +kernel
theorem dX10_word_4 : decode cX10_word 4 = .ok (.iload_n 2, 1) := by decide +kernel
theorem dX10_word_5 : decode cX10_word 5 = .ok (.ldc 167, 2) := by decide +kernel
theorem dX10_word_7 : decode cX10_word 7 = .ok (.invokevirtual 169, 3) := by decide +kernel
theorem dX10_word_10 : decode cX10_word 10 = .ok (.if_icmp .ge 113, 3) := by decide +kernel
theorem dX10_word_13 : decode cX10_word 13 = .ok (.iconst 0, 1) := by decide +kernel
theorem dX10_word_14 : decode cX10_word 14 = .ok (.istore_n 3, 1) := by decide +kernel
theorem dX10_word_15 : decode cX10_word 15 = .ok (.ldc 167, 2) := by decide +kernel
theorem dX10_word_17 : decode cX10_word 17 = .ok (.iload_n 2, 1) := by decide +kernel
theorem dX10_word_18 : decode cX10_word 18 = .ok (.iload_n 3, 1) := by decide +kernel
theorem dX10_word_19 : decode cX10_word 19 = .ok (.iadd, 1) := by decide +kernel
theorem dX10_word_20 : decode cX10_word 20 = .ok (.invokevirtual 174, 3) := by decide +kernel
theorem dX10_word_23 : decode cX10_word 23 = .ok (.bipush 32, 2) := by decide +kernel
theorem dX10_word_25 : decode cX10_word 25 = .ok (.if_icmp .eq 44, 3) := by decide +kernel
theorem dX10_word_28 : decode cX10_word 28 = .ok (.aload_n 0, 1) := by decide +kernel
theorem dX10_word_29 : decode cX10_word 29 = .ok (.getfield 140, 3) := by decide +kernel
theorem dX10_word_32 : decode cX10_word 32 = .ok (.iload_n 3, 1) := by decide +kernel
theorem dX10_word_33 : decode cX10_word 33 = .ok (.iadd, 1) := by decide +kernel
theorem dX10_word_34 : decode cX10_word 34 = .ok (.aload_n 0, 1) := by decide +kernel
theorem dX10_word_35 : decode cX10_word 35 = .ok (.getfield 130, 3) := by decide +kernel
theorem dX10_word_38 : decode cX10_word 38 = .ok (.if_icmp .ge 31, 3) := by decide +kernel
theorem dX10_word_41 : decode cX10_word 41 = .ok (.aload_n 0, 1) := by decide +kernel
theorem dX10_word_42 : decode cX10_word 42 = .ok (.getfield 7, 3) := by decide +kernel
theorem dX10_word_45 : decode cX10_word 45 = .ok (.aload_n 0, 1) := by decide +kernel
theorem dX10_word_46 : decode cX10_word 46 = .ok (.getfield 140, 3) := by decide +kernel
theorem dX10_word_49 : decode cX10_word 49 = .ok (.iload_n 3, 1) := by decide +kernel
theorem dX10_word_50 : decode cX10_word 50 = .ok (.iadd, 1) := by decide +kernel
theorem dX10_word_51 : decode cX10_word 51 = .ok (.iaload, 1) := by decide +kernel
theorem dX10_word_52 : decode cX10_word 52 = .ok (.ldc 167, 2) := by decide +kernel
theorem dX10_word_54 : decode cX10_word 54 = .ok (.iload_n 2, 1) := by decide +kernel
theorem dX10_word_55 : decode cX10_word 55 = .ok (.iload_n 3, 1) := by decide +kernel
theorem dX10_word_56 : decode cX10_word 56 = .ok (.iadd, 1) := by decide +kernel
theorem dX10_word_57 : decode cX10_word 57 = .ok (.invokevirtual 174, 3) := by decide +kernel
theorem dX10_word_60 : decode cX10_word 60 = .ok (.if_icmp .ne 9, 3) := by decide +kernel
theorem dX10_word_63 : decode cX10_word 63 = .ok (.iinc 3 1, 3) := by decide +kernel
theorem dX10_word_66 : decode cX10_word 66 = .ok (.goto (-51), 3) := by decide +kernel
theorem dX10_word_69 : decode cX10_word 69 = .ok (.ldc 167, 2) := by decide +kernel
theorem dX10_word_71 : decode cX10_word 71 = .ok (.iload_n 2, 1) := by decide +kernel
theorem dX10_word_72 : decode cX10_word 72 = .ok (.iload_n 3, 1) := by decide +kernel
theorem dX10_word_73 : decode cX10_word 73 = .ok (.iadd, 1) := by decide +kernel
theorem dX10_word_74 : decode cX10_word 74 = .ok (.invokevirtual 174, 3) := by decide +kernel
theorem dX10_word_77 : decode cX10_word 77 = .ok (.bipush 32, 2) := by decide +kernel
theorem dX10_word_79 : decode cX10_word 79 = .ok (.if_icmp .ne 18, 3) := by decide +kernel
theorem dX10_word_82 : decode cX10_word 82 = .ok (.aload_n 0, 1) := by decide +kernel
theorem dX10_word_83 : decode cX10_word 83 = .ok (.getfield 140, 3) := by decide +kernel
theorem dX10_word_86 : decode cX10_word 86 = .ok (.iload_n 3, 1) := by decide +kernel
theorem dX10_word_87 : decode cX10_word 87 = .ok (.iadd, 1) := by decide +kernel
theorem dX10_word_88 : decode cX10_word 88 = .ok (.aload_n 0, 1) := by decide +kernel
theorem dX10_word_89 : decode cX10_word 89 = .ok (.getfield 130, 3) := by decide +kernel
theorem dX10_word_92 : decode cX10_word 92 = .ok (.if_icmp .ne 5, 3) := by decide +kernel
theorem dX10_word_95 : decode cX10_word 95 = .ok (.iload_n 1, 1) := by decide +kernel
theorem dX10_word_96 : decode cX10_word 96 = .ok (.ireturn, 1) := by decide +kernel
theorem dX10_word_97 : decode cX10_word 97 = .ok (.ldc 167, 2) := by decide +kernel
theorem dX10_word_99 : decode cX10_word 99 = .ok (.iload_n 2, 1) := by decide +kernel
theorem dX10_word_100 : decode cX10_word 100 = .ok (.invokevirtual 174, 3) := by decide +kernel
theorem dX10_word_103 : decode cX10_word 103 = .ok (.bipush 32, 2) := by decide +kernel
theorem dX10_word_105 : decode cX10_word 105 = .ok (.if_icmp .eq 9, 3) := by decide +kernel
theorem dX10_word_108 : decode cX10_word 108 = .ok (.iinc 2 1, 3) := by decide +kernel
theorem dX10_word_111 : decode cX10_word 111 = .ok (.goto (-14), 3) := by decide +kernel
theorem dX10_word_114 : decode cX10_word 114 = .ok (.iinc 2 1, 3) := by decide +kernel
theorem dX10_word_117 : decode cX10_word 117 = .ok (.iinc 1 1, 3) := by decide +kernel
theorem dX10_word_120 : decode cX10_word 120 = .ok (.goto (-116), 3) := by decide +kernel
theorem dX10_word_123 : decode cX10_word 123 = .ok (.iconst (-1), 1) := by decide +kernel
theorem dX10_word_124 : decode cX10_word 124 = .ok (.ireturn, 1) := by decide +kernel
theorem dX10_name_0 : decode cX10_name 0 = .ok (.aload_n 0, 1) := by decide +kernel
theorem dX10_name_1 : decode cX10_name 1 = .ok (.iconst 0, 1) := by decide +kernel
theorem dX10_name_2 : decode cX10_name 2 = .ok (.putfield 153, 3) := by decide +kernel
theorem dX10_name_5 : decode cX10_name 5 = .ok (.iconst 0, 1) := by decide +kernel
theorem dX10_name_6 : decode cX10_name 6 = .ok (.istore_n 1, 1) := by decide +kernel
theorem dX10_name_7 : decode cX10_name 7 = .ok (.iload_n 1, 1) := by decide +kernel
theorem dX10_name_8 : decode cX10_name 8 = .ok (.bipush 6, 2) := by decide +kernel
theorem dX10_name_10 : decode cX10_name 10 = .ok (.if_icmp .ge 53, 3) := by decide +kernel
theorem dX10_name_13 : decode cX10_name 13 = .ok (.aload_n 0, 1) := by decide +kernel
theorem dX10_name_14 : decode cX10_name 14 = .ok (.aload_n 0, 1) := by decide +kernel
theorem dX10_name_15 : decode cX10_name 15 = .ok (.getfield 153, 3) := by decide +kernel
theorem dX10_name_18 : decode cX10_name 18 = .ok (.iconst 5, 1) := by decide +kernel
theorem dX10_name_19 : decode cX10_name 19 = .ok (.ishl, 1) := by decide +kernel
theorem dX10_name_20 : decode cX10_name 20 = .ok (.aload_n 0, 1) := by decide +kernel
theorem dX10_name_21 : decode cX10_name 21 = .ok (.getfield 140, 3) := by decide +kernel
theorem dX10_name_24 : decode cX10_name 24 = .ok (.iload_n 1, 1) := by decide +kernel
theorem dX10_name_25 : decode cX10_name 25 = .ok (.iadd, 1) := by decide +kernel
theorem dX10_name_26 : decode cX10_name 26 = .ok (.aload_n 0, 1) := by decide +kernel
theorem dX10_name_27 : decode cX10_name 27 = .ok (.getfield 130, 3) := by decide +kernel
theorem dX10_name_30 : decode cX10_name 30 = .ok (.if_icmp .ge 22, 3) := by decide +kernel
theorem dX10_name_33 : decode cX10_name 33 = .ok (.aload_n 0, 1) := by decide +kernel
theorem dX10_name_34 : decode cX10_name 34 = .ok (.getfield 7, 3) := by decide +kernel
theorem dX10_name_37 : decode cX10_name 37 = .ok (.aload_n 0, 1) := by decide +kernel
theorem dX10_name_38 : decode cX10_name 38 = .ok (.getfield 140, 3) := by decide +kernel
theorem dX10_name_41 : decode cX10_name 41 = .ok (.iload_n 1, 1) := by decide +kernel
theorem dX10_name_42 : decode cX10_name 42 = .ok (.iadd, 1) := by decide +kernel
theorem dX10_name_43 : decode cX10_name 43 = .ok (.iaload, 1) := by decide +kernel
theorem dX10_name_44 : decode cX10_name 44 = .ok (.bipush 97, 2) := by decide +kernel
theorem dX10_name_46 : decode cX10_name 46 = .ok (.isub, 1) := by decide +kernel
theorem dX10_name_47 : decode cX10_name 47 = .ok (.iconst 1, 1) := by decide +kernel
theorem dX10_name_48 : decode cX10_name 48 = .ok (.iadd, 1) := by decide +kernel
theorem dX10_name_49 : decode cX10_name 49 = .ok (.goto 4, 3) := by decide +kernel
theorem dX10_name_52 : decode cX10_name 52 = .ok (.iconst 0, 1) := by decide +kernel
theorem dX10_name_53 : decode cX10_name 53 = .ok (.ior, 1) := by decide +kernel
theorem dX10_name_54 : decode cX10_name 54 = .ok (.putfield 153, 3) := by decide +kernel
theorem dX10_name_57 : decode cX10_name 57 = .ok (.iinc 1 1, 3) := by decide +kernel
theorem dX10_name_60 : decode cX10_name 60 = .ok (.goto (-53), 3) := by decide +kernel
theorem dX10_name_63 : decode cX10_name 63 = .ok (.return_, 1) := by decide +kernel
theorem dX10_wrong_0 : decode cX10_wrong 0 = .ok (.aload_n 0, 1) := by decide +kernel
theorem dX10_wrong_1 : decode cX10_wrong 1 = .ok (.getfield 178, 3) := by decide +kernel
theorem dX10_wrong_4 : decode cX10_wrong 4 = .ok (.ifCond .eq 4, 3) := by decide +kernel
theorem dX10_wrong_7 : decode cX10_wrong 7 = .ok (.return_, 1) := by decide +kernel
theorem dX10_wrong_8 : decode cX10_wrong 8 = .ok (.aload_n 0, 1) := by decide +kernel
theorem dX10_wrong_9 : decode cX10_wrong 9 = .ok (.iload_n 1, 1) := by decide +kernel
theorem dX10_wrong_10 : decode cX10_wrong 10 = .ok (.putfield 178, 3) := by decide +kernel
theorem dX10_wrong_13 : decode cX10_wrong 13 = .ok (.aload_n 0, 1) := by decide +kernel
theorem dX10_wrong_14 : decode cX10_wrong 14 = .ok (.aload_n 0, 1) := by decide +kernel
theorem dX10_wrong_15 : decode cX10_wrong 15 = .ok (.getfield 140, 3) := by decide +kernel
theorem dX10_wrong_18 : decode cX10_wrong 18 = .ok (.putfield 181, 3) := by decide +kernel
theorem dX10_wrong_21 : decode cX10_wrong 21 = .ok (.return_, 1) := by decide +kernel
theorem dX10_isWord_0 : decode cX10_isWord 0 = .ok (.aload_n 0, 1) := by decide +kernel
theorem dX10_isWord_1 : decode cX10_isWord 1 = .ok (.getfield 178, 3) := by decide +kernel
theorem dX10_isWord_4 : decode cX10_isWord 4 = .ok (.ifCond .ne 22, 3) := by decide +kernel
theorem dX10_isWord_7 : decode cX10_isWord 7 = .ok (.aload_n 0, 1) := by decide +kernel
theorem dX10_isWord_8 : decode cX10_isWord 8 = .ok (.getfield 143, 3) := by decide +kernel
theorem dX10_isWord_11 : decode cX10_isWord 11 = .ok (.ifCond .ne 15, 3) := by decide +kernel
theorem dX10_isWord_14 : decode cX10_isWord 14 = .ok (.aload_n 0, 1) := by decide +kernel
theorem dX10_isWord_15 : decode cX10_isWord 15 = .ok (.getfield 153, 3) := by decide +kernel
theorem dX10_isWord_18 : decode cX10_isWord 18 = .ok (.iload_n 1, 1) := by decide +kernel
theorem dX10_isWord_19 : decode cX10_isWord 19 = .ok (.if_icmp .ne 7, 3) := by decide +kernel
theorem dX10_isWord_22 : decode cX10_isWord 22 = .ok (.iconst 1, 1) := by decide +kernel
theorem dX10_isWord_23 : decode cX10_isWord 23 = .ok (.goto 4, 3) := by decide +kernel
theorem dX10_isWord_26 : decode cX10_isWord 26 = .ok (.iconst 0, 1) := by decide +kernel
theorem dX10_isWord_27 : decode cX10_isWord 27 = .ok (.ireturn, 1) := by decide +kernel
theorem dX10_isSign_0 : decode cX10_isSign 0 = .ok (.aload_n 0, 1) := by decide +kernel
theorem dX10_isSign_1 : decode cX10_isSign 1 = .ok (.getfield 178, 3) := by decide +kernel
theorem dX10_isSign_4 : decode cX10_isSign 4 = .ok (.ifCond .ne 23, 3) := by decide +kernel
theorem dX10_isSign_7 : decode cX10_isSign 7 = .ok (.aload_n 0, 1) := by decide +kernel
theorem dX10_isSign_8 : decode cX10_isSign 8 = .ok (.getfield 143, 3) := by decide +kernel
theorem dX10_isSign_11 : decode cX10_isSign 11 = .ok (.iconst 3, 1) := by decide +kernel
theorem dX10_isSign_12 : decode cX10_isSign 12 = .ok (.if_icmp .ne 15, 3) := by decide +kernel
theorem dX10_isSign_15 : decode cX10_isSign 15 = .ok (.aload_n 0, 1) := by decide +kernel
theorem dX10_isSign_16 : decode cX10_isSign 16 = .ok (.getfield 153, 3) := by decide +kernel
theorem dX10_isSign_19 : decode cX10_isSign 19 = .ok (.iload_n 1, 1) := by decide +kernel
theorem dX10_isSign_20 : decode cX10_isSign 20 = .ok (.if_icmp .ne 7, 3) := by decide +kernel
theorem dX10_isSign_23 : decode cX10_isSign 23 = .ok (.iconst 1, 1) := by decide +kernel
theorem dX10_isSign_24 : decode cX10_isSign 24 = .ok (.goto 4, 3) := by decide +kernel
theorem dX10_isSign_27 : decode cX10_isSign 27 = .ok (.iconst 0, 1) := by decide +kernel
theorem dX10_isSign_28 : decode cX10_isSign 28 = .ok (.ireturn, 1) := by decide +kernel
theorem dX10_goOn_0 : decode cX10_goOn 0 = .ok (.aload_n 0, 1) := by decide +kernel
theorem dX10_goOn_1 : decode cX10_goOn 1 = .ok (.getfield 178, 3) := by decide +kernel
theorem dX10_goOn_4 : decode cX10_goOn 4 = .ok (.ifCond .ne 7, 3) := by decide +kernel
theorem dX10_goOn_7 : decode cX10_goOn 7 = .ok (.aload_n 0, 1) := by decide +kernel
theorem dX10_goOn_8 : decode cX10_goOn 8 = .ok (.invokevirtual 184, 3) := by decide +kernel
theorem dX10_goOn_11 : decode cX10_goOn 11 = .ok (.return_, 1) := by decide +kernel
theorem dX10_numeral_0 : decode cX10_numeral 0 = .ok (.aload_n 0, 1) := by decide +kernel
theorem dX10_numeral_1 : decode cX10_numeral 1 = .ok (.getfield 178, 3) := by decide +kernel
theorem dX10_numeral_4 : decode cX10_numeral 4 = .ok (.ifCond .eq 5, 3) := by decide +kernel
theorem dX10_numeral_7 : decode cX10_numeral 7 = .ok (.iload_n 1, 1) := by decide +kernel
theorem dX10_numeral_8 : decode cX10_numeral 8 = .ok (.ireturn, 1) := by decide +kernel
theorem dX10_numeral_9 : decode cX10_numeral 9 = .ok (.aload_n 0, 1) := by decide +kernel
theorem dX10_numeral_10 : decode cX10_numeral 10 = .ok (.getfield 143, 3) := by decide +kernel
theorem dX10_numeral_13 : decode cX10_numeral 13 = .ok (.iconst 2, 1) := by decide +kernel
theorem dX10_numeral_14 : decode cX10_numeral 14 = .ok (.if_icmp .eq 11, 3) := by decide +kernel
theorem dX10_numeral_17 : decode cX10_numeral 17 = .ok (.aload_n 0, 1) := by decide +kernel
theorem dX10_numeral_18 : decode cX10_numeral 18 = .ok (.iconst 1, 1) := by decide +kernel
theorem dX10_numeral_19 : decode cX10_numeral 19 = .ok (.invokevirtual 187, 3) := by decide +kernel
theorem dX10_numeral_22 : decode cX10_numeral 22 = .ok (.goto 24, 3) := by decide +kernel
theorem dX10_numeral_25 : decode cX10_numeral 25 = .ok (.aload_n 0, 1) := by decide +kernel
theorem dX10_numeral_26 : decode cX10_numeral 26 = .ok (.getfield 153, 3) := by decide +kernel
theorem dX10_numeral_29 : decode cX10_numeral 29 = .ok (.iload_n 1, 1) := by decide +kernel
theorem dX10_numeral_30 : decode cX10_numeral 30 = .ok (.if_icmp .lt 11, 3) := by decide +kernel
theorem dX10_numeral_33 : decode cX10_numeral 33 = .ok (.aload_n 0, 1) := by decide +kernel
theorem dX10_numeral_34 : decode cX10_numeral 34 = .ok (.getfield 153, 3) := by decide +kernel
theorem dX10_numeral_37 : decode cX10_numeral 37 = .ok (.iload_n 2, 1) := by decide +kernel
theorem dX10_numeral_38 : decode cX10_numeral 38 = .ok (.if_icmp .le 8, 3) := by decide +kernel
theorem dX10_numeral_41 : decode cX10_numeral 41 = .ok (.aload_n 0, 1) := by decide +kernel
theorem dX10_numeral_42 : decode cX10_numeral 42 = .ok (.iconst 2, 1) := by decide +kernel
theorem dX10_numeral_43 : decode cX10_numeral 43 = .ok (.invokevirtual 187, 3) := by decide +kernel
theorem dX10_numeral_46 : decode cX10_numeral 46 = .ok (.aload_n 0, 1) := by decide +kernel
theorem dX10_numeral_47 : decode cX10_numeral 47 = .ok (.getfield 178, 3) := by decide +kernel
theorem dX10_numeral_50 : decode cX10_numeral 50 = .ok (.ifCond .eq 5, 3) := by decide +kernel
theorem dX10_numeral_53 : decode cX10_numeral 53 = .ok (.iload_n 1, 1) := by decide +kernel
theorem dX10_numeral_54 : decode cX10_numeral 54 = .ok (.ireturn, 1) := by decide +kernel
theorem dX10_numeral_55 : decode cX10_numeral 55 = .ok (.aload_n 0, 1) := by decide +kernel
theorem dX10_numeral_56 : decode cX10_numeral 56 = .ok (.getfield 153, 3) := by decide +kernel
theorem dX10_numeral_59 : decode cX10_numeral 59 = .ok (.istore_n 3, 1) := by decide +kernel
theorem dX10_numeral_60 : decode cX10_numeral 60 = .ok (.aload_n 0, 1) := by decide +kernel
theorem dX10_numeral_61 : decode cX10_numeral 61 = .ok (.invokevirtual 184, 3) := by decide +kernel
theorem dX10_numeral_64 : decode cX10_numeral 64 = .ok (.iload_n 3, 1) := by decide +kernel
theorem dX10_numeral_65 : decode cX10_numeral 65 = .ok (.ireturn, 1) := by decide +kernel
theorem dX10_found_0 : decode cX10_found 0 = .ok (.iconst 0, 1) := by decide +kernel
theorem dX10_found_1 : decode cX10_found 1 = .ok (.istore 4, 2) := by decide +kernel
theorem dX10_found_3 : decode cX10_found 3 = .ok (.iload 4, 2) := by decide +kernel
theorem dX10_found_5 : decode cX10_found 5 = .ok (.iload_n 2, 1) := by decide +kernel
theorem dX10_found_6 : decode cX10_found 6 = .ok (.if_icmp .ge 22, 3) := by decide +kernel
theorem dX10_found_9 : decode cX10_found 9 = .ok (.aload_n 0, 1) := by decide +kernel
theorem dX10_found_10 : decode cX10_found 10 = .ok (.iload_n 1, 1) := by decide +kernel
theorem dX10_found_11 : decode cX10_found 11 = .ok (.iload 4, 2) := by decide +kernel
theorem dX10_found_13 : decode cX10_found 13 = .ok (.iadd, 1) := by decide +kernel
theorem dX10_found_14 : decode cX10_found 14 = .ok (.iaload, 1) := by decide +kernel
theorem dX10_found_15 : decode cX10_found 15 = .ok (.iload_n 3, 1) := by decide +kernel
theorem dX10_found_16 : decode cX10_found 16 = .ok (.if_icmp .ne 6, 3) := by decide +kernel
theorem dX10_found_19 : decode cX10_found 19 = .ok (.iload 4, 2) := by decide +kernel
theorem dX10_found_21 : decode cX10_found 21 = .ok (.ireturn, 1) := by decide +kernel
theorem dX10_found_22 : decode cX10_found 22 = .ok (.iinc 4 1, 3) := by decide +kernel
theorem dX10_found_25 : decode cX10_found 25 = .ok (.goto (-22), 3) := by decide +kernel
theorem dX10_found_28 : decode cX10_found 28 = .ok (.iconst (-1), 1) := by decide +kernel
theorem dX10_found_29 : decode cX10_found 29 = .ok (.ireturn, 1) := by decide +kernel
theorem dX10_fresh_0 : decode cX10_fresh 0 = .ok (.aload_n 0, 1) := by decide +kernel
theorem dX10_fresh_1 : decode cX10_fresh 1 = .ok (.getfield 178, 3) := by decide +kernel
theorem dX10_fresh_4 : decode cX10_fresh 4 = .ok (.ifCond .eq 5, 3) := by decide +kernel
theorem dX10_fresh_7 : decode cX10_fresh 7 = .ok (.iconst 0, 1) := by decide +kernel
theorem dX10_fresh_8 : decode cX10_fresh 8 = .ok (.ireturn, 1) := by decide +kernel
theorem dX10_fresh_9 : decode cX10_fresh 9 = .ok (.aload_n 0, 1) := by decide +kernel
theorem dX10_fresh_10 : decode cX10_fresh 10 = .ok (.getfield 143, 3) := by decide +kernel
theorem dX10_fresh_13 : decode cX10_fresh 13 = .ok (.iconst 1, 1) := by decide +kernel
theorem dX10_fresh_14 : decode cX10_fresh 14 = .ok (.if_icmp .eq 11, 3) := by decide +kernel
theorem dX10_fresh_17 : decode cX10_fresh 17 = .ok (.aload_n 0, 1) := by decide +kernel
theorem dX10_fresh_18 : decode cX10_fresh 18 = .ok (.iconst 1, 1) := by decide +kernel
theorem dX10_fresh_19 : decode cX10_fresh 19 = .ok (.invokevirtual 187, 3) := by decide +kernel
theorem dX10_fresh_22 : decode cX10_fresh 22 = .ok (.goto 22, 3) := by decide +kernel
theorem dX10_fresh_25 : decode cX10_fresh 25 = .ok (.aload_n 1, 1) := by decide +kernel
theorem dX10_fresh_26 : decode cX10_fresh 26 = .ok (.iload_n 2, 1) := by decide +kernel
theorem dX10_fresh_27 : decode cX10_fresh 27 = .ok (.iload_n 3, 1) := by decide +kernel
theorem dX10_fresh_28 : decode cX10_fresh 28 = .ok (.aload_n 0, 1) := by decide +kernel
theorem dX10_fresh_29 : decode cX10_fresh 29 = .ok (.getfield 153, 3) := by decide +kernel
theorem dX10_fresh_32 : decode cX10_fresh 32 = .ok (.invokestatic 190, 3) := by decide +kernel
theorem dX10_fresh_35 : decode cX10_fresh 35 = .ok (.iconst (-1), 1) := by decide +kernel
theorem dX10_fresh_36 : decode cX10_fresh 36 = .ok (.if_icmp .eq 8, 3) := by decide +kernel
theorem dX10_fresh_39 : decode cX10_fresh 39 = .ok (.aload_n 0, 1) := by decide +kernel
theorem dX10_fresh_40 : decode cX10_fresh 40 = .ok (.iconst 3, 1) := by decide +kernel
theorem dX10_fresh_41 : decode cX10_fresh 41 = .ok (.invokevirtual 187, 3) := by decide +kernel
theorem dX10_fresh_44 : decode cX10_fresh 44 = .ok (.aload_n 0, 1) := by decide +kernel
theorem dX10_fresh_45 : decode cX10_fresh 45 = .ok (.getfield 178, 3) := by decide +kernel
theorem dX10_fresh_48 : decode cX10_fresh 48 = .ok (.ifCond .eq 5, 3) := by decide +kernel
theorem dX10_fresh_51 : decode cX10_fresh 51 = .ok (.iconst 0, 1) := by decide +kernel
theorem dX10_fresh_52 : decode cX10_fresh 52 = .ok (.ireturn, 1) := by decide +kernel
theorem dX10_fresh_53 : decode cX10_fresh 53 = .ok (.aload_n 0, 1) := by decide +kernel
theorem dX10_fresh_54 : decode cX10_fresh 54 = .ok (.getfield 153, 3) := by decide +kernel
theorem dX10_fresh_57 : decode cX10_fresh 57 = .ok (.istore 4, 2) := by decide +kernel
theorem dX10_fresh_59 : decode cX10_fresh 59 = .ok (.aload_n 0, 1) := by decide +kernel
theorem dX10_fresh_60 : decode cX10_fresh 60 = .ok (.invokevirtual 184, 3) := by decide +kernel
theorem dX10_fresh_63 : decode cX10_fresh 63 = .ok (.iload 4, 2) := by decide +kernel
theorem dX10_fresh_65 : decode cX10_fresh 65 = .ok (.ireturn, 1) := by decide +kernel
theorem dX10_fresher_0 : decode cX10_fresher 0 = .ok (.aload_n 0, 1) := by decide +kernel
theorem dX10_fresher_1 : decode cX10_fresher 1 = .ok (.getfield 13, 3) := by decide +kernel
theorem dX10_fresher_4 : decode cX10_fresher 4 = .ok (.bipush 7, 2) := by decide +kernel
theorem dX10_fresher_6 : decode cX10_fresher 6 = .ok (.iload_n 1, 1) := by decide +kernel
theorem dX10_fresher_7 : decode cX10_fresher 7 = .ok (.iadd, 1) := by decide +kernel
theorem dX10_fresher_8 : decode cX10_fresher 8 = .ok (.iaload, 1) := by decide +kernel
theorem dX10_fresher_9 : decode cX10_fresher 9 = .ok (.ireturn, 1) := by decide +kernel
theorem dX10_reads_0 : decode cX10_reads 0 = .ok (.aload_n 0, 1) := by decide +kernel
theorem dX10_reads_1 : decode cX10_reads 1 = .ok (.getfield 13, 3) := by decide +kernel
theorem dX10_reads_4 : decode cX10_reads 4 = .ok (.bipush 7, 2) := by decide +kernel
theorem dX10_reads_6 : decode cX10_reads 6 = .ok (.iload_n 1, 1) := by decide +kernel
theorem dX10_reads_7 : decode cX10_reads 7 = .ok (.iadd, 1) := by decide +kernel
theorem dX10_reads_8 : decode cX10_reads 8 = .ok (.iload_n 2, 1) := by decide +kernel
theorem dX10_reads_9 : decode cX10_reads 9 = .ok (.iastore, 1) := by decide +kernel
theorem dX10_reads_10 : decode cX10_reads 10 = .ok (.return_, 1) := by decide +kernel
theorem dX10_isFull_0 : decode cX10_isFull 0 = .ok (.iload_n 1, 1) := by decide +kernel
theorem dX10_isFull_1 : decode cX10_isFull 1 = .ok (.ifCond .ne 13, 3) := by decide +kernel
theorem dX10_isFull_4 : decode cX10_isFull 4 = .ok (.aload_n 0, 1) := by decide +kernel
theorem dX10_isFull_5 : decode cX10_isFull 5 = .ok (.iconst 0, 1) := by decide +kernel
theorem dX10_isFull_6 : decode cX10_isFull 6 = .ok (.invokevirtual 194, 3) := by decide +kernel
theorem dX10_isFull_9 : decode cX10_isFull 9 = .ok (.bipush 6, 2) := by decide +kernel
theorem dX10_isFull_11 : decode cX10_isFull 11 = .ok (.if_icmp .eq 18, 3) := by decide +kernel
theorem dX10_isFull_14 : decode cX10_isFull 14 = .ok (.iload_n 1, 1) := by decide +kernel
theorem dX10_isFull_15 : decode cX10_isFull 15 = .ok (.iconst 1, 1) := by decide +kernel
theorem dX10_isFull_16 : decode cX10_isFull 16 = .ok (.if_icmp .ne 17, 3) := by decide +kernel
theorem dX10_isFull_19 : decode cX10_isFull 19 = .ok (.aload_n 0, 1) := by decide +kernel
theorem dX10_isFull_20 : decode cX10_isFull 20 = .ok (.iconst 1, 1) := by decide +kernel
theorem dX10_isFull_21 : decode cX10_isFull 21 = .ok (.invokevirtual 194, 3) := by decide +kernel
theorem dX10_isFull_24 : decode cX10_isFull 24 = .ok (.bipush 10, 2) := by decide +kernel
theorem dX10_isFull_26 : decode cX10_isFull 26 = .ok (.if_icmp .ne 7, 3) := by decide +kernel
theorem dX10_isFull_29 : decode cX10_isFull 29 = .ok (.iconst 1, 1) := by decide +kernel
theorem dX10_isFull_30 : decode cX10_isFull 30 = .ok (.goto 4, 3) := by decide +kernel
theorem dX10_isFull_33 : decode cX10_isFull 33 = .ok (.iconst 0, 1) := by decide +kernel
theorem dX10_isFull_34 : decode cX10_isFull 34 = .ok (.ireturn, 1) := by decide +kernel
theorem dX10_line_0 : decode cX10_line 0 = .ok (.aload_n 0, 1) := by decide +kernel
theorem dX10_line_1 : decode cX10_line 1 = .ok (.getfield 143, 3) := by decide +kernel
theorem dX10_line_4 : decode cX10_line 4 = .ok (.ifCond .ne 12, 3) := by decide +kernel
theorem dX10_line_7 : decode cX10_line 7 = .ok (.aload_n 0, 1) := by decide +kernel
theorem dX10_line_8 : decode cX10_line 8 = .ok (.getfield 153, 3) := by decide +kernel
theorem dX10_line_11 : decode cX10_line 11 = .ok (.bipush 6, 2) := by decide +kernel
theorem dX10_line_13 : decode cX10_line 13 = .ok (.if_icmp .le 9, 3) := by decide +kernel
theorem dX10_line_16 : decode cX10_line 16 = .ok (.aload_n 0, 1) := by decide +kernel
theorem dX10_line_17 : decode cX10_line 17 = .ok (.iconst 1, 1) := by decide +kernel
theorem dX10_line_18 : decode cX10_line 18 = .ok (.invokevirtual 187, 3) := by decide +kernel
theorem dX10_line_21 : decode cX10_line 21 = .ok (.return_, 1) := by decide +kernel
theorem dX10_line_22 : decode cX10_line 22 = .ok (.aload_n 0, 1) := by decide +kernel
theorem dX10_line_23 : decode cX10_line 23 = .ok (.getfield 153, 3) := by decide +kernel
theorem dX10_line_26 : decode cX10_line 26 = .ok (.istore_n 1, 1) := by decide +kernel
theorem dX10_line_27 : decode cX10_line 27 = .ok (.aload_n 0, 1) := by decide +kernel
theorem dX10_line_28 : decode cX10_line 28 = .ok (.iload_n 1, 1) := by decide +kernel
theorem dX10_line_29 : decode cX10_line 29 = .ok (.invokevirtual 198, 3) := by decide +kernel
theorem dX10_line_32 : decode cX10_line 32 = .ok (.ifCond .eq 11, 3) := by decide +kernel
theorem dX10_line_35 : decode cX10_line 35 = .ok (.aload_n 0, 1) := by decide +kernel
theorem dX10_line_36 : decode cX10_line 36 = .ok (.iconst 2, 1) := by decide +kernel
theorem dX10_line_37 : decode cX10_line 37 = .ok (.invokevirtual 187, 3) := by decide +kernel
theorem dX10_line_40 : decode cX10_line 40 = .ok (.goto 30, 3) := by decide +kernel
theorem dX10_line_43 : decode cX10_line 43 = .ok (.iload_n 1, 1) := by decide +kernel
theorem dX10_line_44 : decode cX10_line 44 = .ok (.iconst 2, 1) := by decide +kernel
theorem dX10_line_45 : decode cX10_line 45 = .ok (.if_icmp .lt 25, 3) := by decide +kernel
theorem dX10_line_48 : decode cX10_line 48 = .ok (.iload_n 1, 1) := by decide +kernel
theorem dX10_line_49 : decode cX10_line 49 = .ok (.iconst 5, 1) := by decide +kernel
theorem dX10_line_50 : decode cX10_line 50 = .ok (.if_icmp .gt 20, 3) := by decide +kernel
theorem dX10_line_53 : decode cX10_line 53 = .ok (.aload_n 0, 1) := by decide +kernel
theorem dX10_line_54 : decode cX10_line 54 = .ok (.getfield 201, 3) := by decide +kernel
theorem dX10_line_57 : decode cX10_line 57 = .ok (.iload_n 1, 1) := by decide +kernel
theorem dX10_line_58 : decode cX10_line 58 = .ok (.ishr, 1) := by decide +kernel
theorem dX10_line_59 : decode cX10_line 59 = .ok (.iconst 1, 1) := by decide +kernel
theorem dX10_line_60 : decode cX10_line 60 = .ok (.iand, 1) := by decide +kernel
theorem dX10_line_61 : decode cX10_line 61 = .ok (.iconst 1, 1) := by decide +kernel
theorem dX10_line_62 : decode cX10_line 62 = .ok (.if_icmp .ne 8, 3) := by decide +kernel
theorem dX10_line_65 : decode cX10_line 65 = .ok (.aload_n 0, 1) := by decide +kernel
theorem dX10_line_66 : decode cX10_line 66 = .ok (.iconst 3, 1) := by decide +kernel
theorem dX10_line_67 : decode cX10_line 67 = .ok (.invokevirtual 187, 3) := by decide +kernel
theorem dX10_line_70 : decode cX10_line 70 = .ok (.aload_n 0, 1) := by decide +kernel
theorem dX10_line_71 : decode cX10_line 71 = .ok (.getfield 178, 3) := by decide +kernel
theorem dX10_line_74 : decode cX10_line 74 = .ok (.ifCond .eq 4, 3) := by decide +kernel
theorem dX10_line_77 : decode cX10_line 77 = .ok (.return_, 1) := by decide +kernel
theorem dX10_line_78 : decode cX10_line 78 = .ok (.aload_n 0, 1) := by decide +kernel
theorem dX10_line_79 : decode cX10_line 79 = .ok (.dup, 1) := by decide +kernel
theorem dX10_line_80 : decode cX10_line 80 = .ok (.getfield 201, 3) := by decide +kernel
theorem dX10_line_83 : decode cX10_line 83 = .ok (.iconst 1, 1) := by decide +kernel
theorem dX10_line_84 : decode cX10_line 84 = .ok (.iload_n 1, 1) := by decide +kernel
theorem dX10_line_85 : decode cX10_line 85 = .ok (.ishl, 1) := by decide +kernel
theorem dX10_line_86 : decode cX10_line 86 = .ok (.ior, 1) := by decide +kernel
theorem dX10_line_87 : decode cX10_line 87 = .ok (.putfield 201, 3) := by decide +kernel
theorem dX10_line_90 : decode cX10_line 90 = .ok (.aload_n 0, 1) := by decide +kernel
theorem dX10_line_91 : decode cX10_line 91 = .ok (.invokevirtual 184, 3) := by decide +kernel
theorem dX10_line_94 : decode cX10_line 94 = .ok (.iload_n 1, 1) := by decide +kernel
theorem dX10_line_95 : decode cX10_line 95 = .ok (.tableswitch 127 0 5 #[37, 52, 67, 82, 97, 112], 37) := by decide +kernel
theorem dX10_line_132 : decode cX10_line 132 = .ok (.aload_n 0, 1) := by decide +kernel
theorem dX10_line_133 : decode cX10_line 133 = .ok (.bipush 6, 2) := by decide +kernel
theorem dX10_line_135 : decode cX10_line 135 = .ok (.aload_n 0, 1) := by decide +kernel
theorem dX10_line_136 : decode cX10_line 136 = .ok (.iconst 0, 1) := by decide +kernel
theorem dX10_line_137 : decode cX10_line 137 = .ok (.invokevirtual 194, 3) := by decide +kernel
theorem dX10_line_140 : decode cX10_line 140 = .ok (.iadd, 1) := by decide +kernel
theorem dX10_line_141 : decode cX10_line 141 = .ok (.invokevirtual 204, 3) := by decide +kernel
theorem dX10_line_144 : decode cX10_line 144 = .ok (.goto 82, 3) := by decide +kernel
theorem dX10_line_147 : decode cX10_line 147 = .ok (.aload_n 0, 1) := by decide +kernel
theorem dX10_line_148 : decode cX10_line 148 = .ok (.bipush 10, 2) := by decide +kernel
theorem dX10_line_150 : decode cX10_line 150 = .ok (.aload_n 0, 1) := by decide +kernel
theorem dX10_line_151 : decode cX10_line 151 = .ok (.iconst 1, 1) := by decide +kernel
theorem dX10_line_152 : decode cX10_line 152 = .ok (.invokevirtual 194, 3) := by decide +kernel
theorem dX10_line_155 : decode cX10_line 155 = .ok (.iadd, 1) := by decide +kernel
theorem dX10_line_156 : decode cX10_line 156 = .ok (.invokevirtual 207, 3) := by decide +kernel
theorem dX10_line_159 : decode cX10_line 159 = .ok (.goto 67, 3) := by decide +kernel
theorem dX10_line_162 : decode cX10_line 162 = .ok (.aload_n 0, 1) := by decide +kernel
theorem dX10_line_163 : decode cX10_line 163 = .ok (.iconst 2, 1) := by decide +kernel
theorem dX10_line_164 : decode cX10_line 164 = .ok (.aload_n 0, 1) := by decide +kernel
theorem dX10_line_165 : decode cX10_line 165 = .ok (.iconst 0, 1) := by decide +kernel
theorem dX10_line_166 : decode cX10_line 166 = .ok (.bipush 100, 2) := by decide +kernel
theorem dX10_line_168 : decode cX10_line 168 = .ok (.invokevirtual 210, 3) := by decide +kernel
theorem dX10_line_171 : decode cX10_line 171 = .ok (.invokevirtual 214, 3) := by decide +kernel
theorem dX10_line_174 : decode cX10_line 174 = .ok (.goto 52, 3) := by decide +kernel
theorem dX10_line_177 : decode cX10_line 177 = .ok (.aload_n 0, 1) := by decide +kernel
theorem dX10_line_178 : decode cX10_line 178 = .ok (.iconst 3, 1) := by decide +kernel
theorem dX10_line_179 : decode cX10_line 179 = .ok (.aload_n 0, 1) := by decide +kernel
theorem dX10_line_180 : decode cX10_line 180 = .ok (.iconst 1, 1) := by decide +kernel
theorem dX10_line_181 : decode cX10_line 181 = .ok (.bipush 99, 2) := by decide +kernel
theorem dX10_line_183 : decode cX10_line 183 = .ok (.invokevirtual 210, 3) := by decide +kernel
theorem dX10_line_186 : decode cX10_line 186 = .ok (.invokevirtual 214, 3) := by decide +kernel
theorem dX10_line_189 : decode cX10_line 189 = .ok (.goto 37, 3) := by decide +kernel
theorem dX10_line_192 : decode cX10_line 192 = .ok (.aload_n 0, 1) := by decide +kernel
theorem dX10_line_193 : decode cX10_line 193 = .ok (.iconst 4, 1) := by decide +kernel
theorem dX10_line_194 : decode cX10_line 194 = .ok (.aload_n 0, 1) := by decide +kernel
theorem dX10_line_195 : decode cX10_line 195 = .ok (.iconst 0, 1) := by decide +kernel
theorem dX10_line_196 : decode cX10_line 196 = .ok (.bipush 99, 2) := by decide +kernel
theorem dX10_line_198 : decode cX10_line 198 = .ok (.invokevirtual 210, 3) := by decide +kernel
theorem dX10_line_201 : decode cX10_line 201 = .ok (.invokevirtual 214, 3) := by decide +kernel
theorem dX10_line_204 : decode cX10_line 204 = .ok (.goto 22, 3) := by decide +kernel
theorem dX10_line_207 : decode cX10_line 207 = .ok (.aload_n 0, 1) := by decide +kernel
theorem dX10_line_208 : decode cX10_line 208 = .ok (.iconst 5, 1) := by decide +kernel
theorem dX10_line_209 : decode cX10_line 209 = .ok (.aload_n 0, 1) := by decide +kernel
theorem dX10_line_210 : decode cX10_line 210 = .ok (.iconst 0, 1) := by decide +kernel
theorem dX10_line_211 : decode cX10_line 211 = .ok (.ldc 162, 2) := by decide +kernel
theorem dX10_line_213 : decode cX10_line 213 = .ok (.invokevirtual 210, 3) := by decide +kernel
theorem dX10_line_216 : decode cX10_line 216 = .ok (.invokevirtual 214, 3) := by decide +kernel
theorem dX10_line_219 : decode cX10_line 219 = .ok (.goto 7, 3) := by decide +kernel
theorem dX10_line_222 : decode cX10_line 222 = .ok (.aload_n 0, 1) := by decide +kernel
theorem dX10_line_223 : decode cX10_line 223 = .ok (.invokevirtual 218, 3) := by decide +kernel
theorem dX10_line_226 : decode cX10_line 226 = .ok (.aload_n 0, 1) := by decide +kernel
theorem dX10_line_227 : decode cX10_line 227 = .ok (.getfield 178, 3) := by decide +kernel
theorem dX10_line_230 : decode cX10_line 230 = .ok (.ifCond .eq 4, 3) := by decide +kernel
theorem dX10_line_233 : decode cX10_line 233 = .ok (.return_, 1) := by decide +kernel
theorem dX10_line_234 : decode cX10_line 234 = .ok (.aload_n 0, 1) := by decide +kernel
theorem dX10_line_235 : decode cX10_line 235 = .ok (.bipush 59, 2) := by decide +kernel
theorem dX10_line_237 : decode cX10_line 237 = .ok (.invokevirtual 221, 3) := by decide +kernel
theorem dX10_line_240 : decode cX10_line 240 = .ok (.ifCond .ne 11, 3) := by decide +kernel
theorem dX10_line_243 : decode cX10_line 243 = .ok (.aload_n 0, 1) := by decide +kernel
theorem dX10_line_244 : decode cX10_line 244 = .ok (.iconst 1, 1) := by decide +kernel
theorem dX10_line_245 : decode cX10_line 245 = .ok (.invokevirtual 187, 3) := by decide +kernel
theorem dX10_line_248 : decode cX10_line 248 = .ok (.goto 7, 3) := by decide +kernel
theorem dX10_line_251 : decode cX10_line 251 = .ok (.aload_n 0, 1) := by decide +kernel
theorem dX10_line_252 : decode cX10_line 252 = .ok (.invokevirtual 184, 3) := by decide +kernel
theorem dX10_line_255 : decode cX10_line 255 = .ok (.aload_n 0, 1) := by decide +kernel
theorem dX10_line_256 : decode cX10_line 256 = .ok (.dup, 1) := by decide +kernel
theorem dX10_line_257 : decode cX10_line 257 = .ok (.getfield 224, 3) := by decide +kernel
theorem dX10_line_260 : decode cX10_line 260 = .ok (.iconst 1, 1) := by decide +kernel
theorem dX10_line_261 : decode cX10_line 261 = .ok (.iadd, 1) := by decide +kernel
theorem dX10_line_262 : decode cX10_line 262 = .ok (.putfield 224, 3) := by decide +kernel
theorem dX10_line_265 : decode cX10_line 265 = .ok (.return_, 1) := by decide +kernel
theorem dX10_nurseLine_0 : decode cX10_nurseLine 0 = .ok (.aload_n 0, 1) := by decide +kernel
theorem dX10_nurseLine_1 : decode cX10_nurseLine 1 = .ok (.getfield 16, 3) := by decide +kernel
theorem dX10_nurseLine_4 : decode cX10_nurseLine 4 = .ok (.iload_n 1, 1) := by decide +kernel
theorem dX10_nurseLine_5 : decode cX10_nurseLine 5 = .ok (.aload_n 0, 1) := by decide +kernel
theorem dX10_nurseLine_6 : decode cX10_nurseLine 6 = .ok (.aload_n 0, 1) := by decide +kernel
theorem dX10_nurseLine_7 : decode cX10_nurseLine 7 = .ok (.getfield 16, 3) := by decide +kernel
theorem dX10_nurseLine_10 : decode cX10_nurseLine 10 = .ok (.bipush 6, 2) := by decide +kernel
theorem dX10_nurseLine_12 : decode cX10_nurseLine 12 = .ok (.aload_n 0, 1) := by decide +kernel
theorem dX10_nurseLine_13 : decode cX10_nurseLine 13 = .ok (.iconst 0, 1) := by decide +kernel
theorem dX10_nurseLine_14 : decode cX10_nurseLine 14 = .ok (.invokevirtual 194, 3) := by decide +kernel
theorem dX10_nurseLine_17 : decode cX10_nurseLine 17 = .ok (.invokevirtual 227, 3) := by decide +kernel
theorem dX10_nurseLine_20 : decode cX10_nurseLine 20 = .ok (.iastore, 1) := by decide +kernel
theorem dX10_nurseLine_21 : decode cX10_nurseLine 21 = .ok (.aload_n 0, 1) := by decide +kernel
theorem dX10_nurseLine_22 : decode cX10_nurseLine 22 = .ok (.getfield 178, 3) := by decide +kernel
theorem dX10_nurseLine_25 : decode cX10_nurseLine 25 = .ok (.ifCond .ne 33, 3) := by decide +kernel
theorem dX10_nurseLine_28 : decode cX10_nurseLine 28 = .ok (.aload_n 0, 1) := by decide +kernel
theorem dX10_nurseLine_29 : decode cX10_nurseLine 29 = .ok (.getfield 143, 3) := by decide +kernel
theorem dX10_nurseLine_32 : decode cX10_nurseLine 32 = .ok (.ifCond .ne 21, 3) := by decide +kernel
theorem dX10_nurseLine_35 : decode cX10_nurseLine 35 = .ok (.aload_n 0, 1) := by decide +kernel
theorem dX10_nurseLine_36 : decode cX10_nurseLine 36 = .ok (.getfield 153, 3) := by decide +kernel
theorem dX10_nurseLine_39 : decode cX10_nurseLine 39 = .ok (.bipush 7, 2) := by decide +kernel
theorem dX10_nurseLine_41 : decode cX10_nurseLine 41 = .ok (.if_icmp .lt 12, 3) := by decide +kernel
theorem dX10_nurseLine_44 : decode cX10_nurseLine 44 = .ok (.aload_n 0, 1) := by decide +kernel
theorem dX10_nurseLine_45 : decode cX10_nurseLine 45 = .ok (.getfield 153, 3) := by decide +kernel
theorem dX10_nurseLine_48 : decode cX10_nurseLine 48 = .ok (.bipush 8, 2) := by decide +kernel
theorem dX10_nurseLine_50 : decode cX10_nurseLine 50 = .ok (.if_icmp .le 8, 3) := by decide +kernel
theorem dX10_nurseLine_53 : decode cX10_nurseLine 53 = .ok (.aload_n 0, 1) := by decide +kernel
theorem dX10_nurseLine_54 : decode cX10_nurseLine 54 = .ok (.iconst 1, 1) := by decide +kernel
theorem dX10_nurseLine_55 : decode cX10_nurseLine 55 = .ok (.invokevirtual 187, 3) := by decide +kernel
theorem dX10_nurseLine_58 : decode cX10_nurseLine 58 = .ok (.aload_n 0, 1) := by decide +kernel
theorem dX10_nurseLine_59 : decode cX10_nurseLine 59 = .ok (.getfield 19, 3) := by decide +kernel
theorem dX10_nurseLine_62 : decode cX10_nurseLine 62 = .ok (.iload_n 1, 1) := by decide +kernel
theorem dX10_nurseLine_63 : decode cX10_nurseLine 63 = .ok (.aload_n 0, 1) := by decide +kernel
theorem dX10_nurseLine_64 : decode cX10_nurseLine 64 = .ok (.getfield 153, 3) := by decide +kernel
theorem dX10_nurseLine_67 : decode cX10_nurseLine 67 = .ok (.bipush 7, 2) := by decide +kernel
theorem dX10_nurseLine_69 : decode cX10_nurseLine 69 = .ok (.isub, 1) := by decide +kernel
theorem dX10_nurseLine_70 : decode cX10_nurseLine 70 = .ok (.iastore, 1) := by decide +kernel
theorem dX10_nurseLine_71 : decode cX10_nurseLine 71 = .ok (.aload_n 0, 1) := by decide +kernel
theorem dX10_nurseLine_72 : decode cX10_nurseLine 72 = .ok (.invokevirtual 231, 3) := by decide +kernel
theorem dX10_nurseLine_75 : decode cX10_nurseLine 75 = .ok (.aload_n 0, 1) := by decide +kernel
theorem dX10_nurseLine_76 : decode cX10_nurseLine 76 = .ok (.getfield 22, 3) := by decide +kernel
theorem dX10_nurseLine_79 : decode cX10_nurseLine 79 = .ok (.iload_n 1, 1) := by decide +kernel
theorem dX10_nurseLine_80 : decode cX10_nurseLine 80 = .ok (.aload_n 0, 1) := by decide +kernel
theorem dX10_nurseLine_81 : decode cX10_nurseLine 81 = .ok (.iconst 0, 1) := by decide +kernel
theorem dX10_nurseLine_82 : decode cX10_nurseLine 82 = .ok (.bipush 9, 2) := by decide +kernel
theorem dX10_nurseLine_84 : decode cX10_nurseLine 84 = .ok (.invokevirtual 210, 3) := by decide +kernel
theorem dX10_nurseLine_87 : decode cX10_nurseLine 87 = .ok (.iastore, 1) := by decide +kernel
theorem dX10_nurseLine_88 : decode cX10_nurseLine 88 = .ok (.aload_n 0, 1) := by decide +kernel
theorem dX10_nurseLine_89 : decode cX10_nurseLine 89 = .ok (.iconst 0, 1) := by decide +kernel
theorem dX10_nurseLine_90 : decode cX10_nurseLine 90 = .ok (.aload_n 0, 1) := by decide +kernel
theorem dX10_nurseLine_91 : decode cX10_nurseLine 91 = .ok (.iconst 0, 1) := by decide +kernel
theorem dX10_nurseLine_92 : decode cX10_nurseLine 92 = .ok (.invokevirtual 194, 3) := by decide +kernel
theorem dX10_nurseLine_95 : decode cX10_nurseLine 95 = .ok (.iconst 1, 1) := by decide +kernel
theorem dX10_nurseLine_96 : decode cX10_nurseLine 96 = .ok (.iadd, 1) := by decide +kernel
theorem dX10_nurseLine_97 : decode cX10_nurseLine 97 = .ok (.invokevirtual 214, 3) := by decide +kernel
theorem dX10_nurseLine_100 : decode cX10_nurseLine 100 = .ok (.return_, 1) := by decide +kernel
theorem dX10_dollLine_0 : decode cX10_dollLine 0 = .ok (.aload_n 0, 1) := by decide +kernel
theorem dX10_dollLine_1 : decode cX10_dollLine 1 = .ok (.getfield 25, 3) := by decide +kernel
theorem dX10_dollLine_4 : decode cX10_dollLine 4 = .ok (.iload_n 1, 1) := by decide +kernel
theorem dX10_dollLine_5 : decode cX10_dollLine 5 = .ok (.aload_n 0, 1) := by decide +kernel
theorem dX10_dollLine_6 : decode cX10_dollLine 6 = .ok (.aload_n 0, 1) := by decide +kernel
theorem dX10_dollLine_7 : decode cX10_dollLine 7 = .ok (.getfield 25, 3) := by decide +kernel
theorem dX10_dollLine_10 : decode cX10_dollLine 10 = .ok (.bipush 10, 2) := by decide +kernel
theorem dX10_dollLine_12 : decode cX10_dollLine 12 = .ok (.aload_n 0, 1) := by decide +kernel
theorem dX10_dollLine_13 : decode cX10_dollLine 13 = .ok (.iconst 1, 1) := by decide +kernel
theorem dX10_dollLine_14 : decode cX10_dollLine 14 = .ok (.invokevirtual 194, 3) := by decide +kernel
theorem dX10_dollLine_17 : decode cX10_dollLine 17 = .ok (.invokevirtual 227, 3) := by decide +kernel
theorem dX10_dollLine_20 : decode cX10_dollLine 20 = .ok (.iastore, 1) := by decide +kernel
theorem dX10_dollLine_21 : decode cX10_dollLine 21 = .ok (.aload_n 0, 1) := by decide +kernel
theorem dX10_dollLine_22 : decode cX10_dollLine 22 = .ok (.getfield 178, 3) := by decide +kernel
theorem dX10_dollLine_25 : decode cX10_dollLine 25 = .ok (.ifCond .ne 16, 3) := by decide +kernel
theorem dX10_dollLine_28 : decode cX10_dollLine 28 = .ok (.aload_n 0, 1) := by decide +kernel
theorem dX10_dollLine_29 : decode cX10_dollLine 29 = .ok (.getfield 143, 3) := by decide +kernel
theorem dX10_dollLine_32 : decode cX10_dollLine 32 = .ok (.iconst 1, 1) := by decide +kernel
theorem dX10_dollLine_33 : decode cX10_dollLine 33 = .ok (.if_icmp .eq 8, 3) := by decide +kernel
theorem dX10_dollLine_36 : decode cX10_dollLine 36 = .ok (.aload_n 0, 1) := by decide +kernel
theorem dX10_dollLine_37 : decode cX10_dollLine 37 = .ok (.iconst 1, 1) := by decide +kernel
theorem dX10_dollLine_38 : decode cX10_dollLine 38 = .ok (.invokevirtual 187, 3) := by decide +kernel
theorem dX10_dollLine_41 : decode cX10_dollLine 41 = .ok (.aload_n 0, 1) := by decide +kernel
theorem dX10_dollLine_42 : decode cX10_dollLine 42 = .ok (.getfield 178, 3) := by decide +kernel
theorem dX10_dollLine_45 : decode cX10_dollLine 45 = .ok (.ifCond .ne 24, 3) := by decide +kernel
theorem dX10_dollLine_48 : decode cX10_dollLine 48 = .ok (.aload_n 0, 1) := by decide +kernel
theorem dX10_dollLine_49 : decode cX10_dollLine 49 = .ok (.getfield 16, 3) := by decide +kernel
theorem dX10_dollLine_52 : decode cX10_dollLine 52 = .ok (.bipush 6, 2) := by decide +kernel
theorem dX10_dollLine_54 : decode cX10_dollLine 54 = .ok (.aload_n 0, 1) := by decide +kernel
theorem dX10_dollLine_55 : decode cX10_dollLine 55 = .ok (.iconst 0, 1) := by decide +kernel
theorem dX10_dollLine_56 : decode cX10_dollLine 56 = .ok (.invokevirtual 194, 3) := by decide +kernel
theorem dX10_dollLine_59 : decode cX10_dollLine 59 = .ok (.aload_n 0, 1) := by decide +kernel
theorem dX10_dollLine_60 : decode cX10_dollLine 60 = .ok (.getfield 153, 3) := by decide +kernel
theorem dX10_dollLine_63 : decode cX10_dollLine 63 = .ok (.invokestatic 190, 3) := by decide +kernel
theorem dX10_dollLine_66 : decode cX10_dollLine 66 = .ok (.goto 4, 3) := by decide +kernel
theorem dX10_dollLine_69 : decode cX10_dollLine 69 = .ok (.iconst 0, 1) := by decide +kernel
theorem dX10_dollLine_70 : decode cX10_dollLine 70 = .ok (.istore_n 2, 1) := by decide +kernel
theorem dX10_dollLine_71 : decode cX10_dollLine 71 = .ok (.aload_n 0, 1) := by decide +kernel
theorem dX10_dollLine_72 : decode cX10_dollLine 72 = .ok (.getfield 178, 3) := by decide +kernel
theorem dX10_dollLine_75 : decode cX10_dollLine 75 = .ok (.ifCond .ne 13, 3) := by decide +kernel
theorem dX10_dollLine_78 : decode cX10_dollLine 78 = .ok (.iload_n 2, 1) := by decide +kernel
theorem dX10_dollLine_79 : decode cX10_dollLine 79 = .ok (.iconst (-1), 1) := by decide +kernel
theorem dX10_dollLine_80 : decode cX10_dollLine 80 = .ok (.if_icmp .ne 8, 3) := by decide +kernel
theorem dX10_dollLine_83 : decode cX10_dollLine 83 = .ok (.aload_n 0, 1) := by decide +kernel
theorem dX10_dollLine_84 : decode cX10_dollLine 84 = .ok (.iconst 4, 1) := by decide +kernel
theorem dX10_dollLine_85 : decode cX10_dollLine 85 = .ok (.invokevirtual 187, 3) := by decide +kernel
theorem dX10_dollLine_88 : decode cX10_dollLine 88 = .ok (.aload_n 0, 1) := by decide +kernel
theorem dX10_dollLine_89 : decode cX10_dollLine 89 = .ok (.invokevirtual 231, 3) := by decide +kernel
theorem dX10_dollLine_92 : decode cX10_dollLine 92 = .ok (.aload_n 0, 1) := by decide +kernel
theorem dX10_dollLine_93 : decode cX10_dollLine 93 = .ok (.getfield 28, 3) := by decide +kernel
theorem dX10_dollLine_96 : decode cX10_dollLine 96 = .ok (.iload_n 1, 1) := by decide +kernel
theorem dX10_dollLine_97 : decode cX10_dollLine 97 = .ok (.iload_n 2, 1) := by decide +kernel
theorem dX10_dollLine_98 : decode cX10_dollLine 98 = .ok (.iastore, 1) := by decide +kernel
theorem dX10_dollLine_99 : decode cX10_dollLine 99 = .ok (.aload_n 0, 1) := by decide +kernel
theorem dX10_dollLine_100 : decode cX10_dollLine 100 = .ok (.getfield 31, 3) := by decide +kernel
theorem dX10_dollLine_103 : decode cX10_dollLine 103 = .ok (.iload_n 1, 1) := by decide +kernel
theorem dX10_dollLine_104 : decode cX10_dollLine 104 = .ok (.aload_n 0, 1) := by decide +kernel
theorem dX10_dollLine_105 : decode cX10_dollLine 105 = .ok (.iconst 0, 1) := by decide +kernel
theorem dX10_dollLine_106 : decode cX10_dollLine 106 = .ok (.bipush 9, 2) := by decide +kernel
theorem dX10_dollLine_108 : decode cX10_dollLine 108 = .ok (.invokevirtual 210, 3) := by decide +kernel
theorem dX10_dollLine_111 : decode cX10_dollLine 111 = .ok (.iastore, 1) := by decide +kernel
theorem dX10_dollLine_112 : decode cX10_dollLine 112 = .ok (.aload_n 0, 1) := by decide +kernel
theorem dX10_dollLine_113 : decode cX10_dollLine 113 = .ok (.getfield 34, 3) := by decide +kernel
theorem dX10_dollLine_116 : decode cX10_dollLine 116 = .ok (.iload_n 1, 1) := by decide +kernel
theorem dX10_dollLine_117 : decode cX10_dollLine 117 = .ok (.aload_n 0, 1) := by decide +kernel
theorem dX10_dollLine_118 : decode cX10_dollLine 118 = .ok (.iconst 0, 1) := by decide +kernel
theorem dX10_dollLine_119 : decode cX10_dollLine 119 = .ok (.bipush 99, 2) := by decide +kernel
theorem dX10_dollLine_121 : decode cX10_dollLine 121 = .ok (.invokevirtual 210, 3) := by decide +kernel
theorem dX10_dollLine_124 : decode cX10_dollLine 124 = .ok (.iastore, 1) := by decide +kernel
theorem dX10_dollLine_125 : decode cX10_dollLine 125 = .ok (.aload_n 0, 1) := by decide +kernel
theorem dX10_dollLine_126 : decode cX10_dollLine 126 = .ok (.iconst 1, 1) := by decide +kernel
theorem dX10_dollLine_127 : decode cX10_dollLine 127 = .ok (.aload_n 0, 1) := by decide +kernel
theorem dX10_dollLine_128 : decode cX10_dollLine 128 = .ok (.iconst 1, 1) := by decide +kernel
theorem dX10_dollLine_129 : decode cX10_dollLine 129 = .ok (.invokevirtual 194, 3) := by decide +kernel
theorem dX10_dollLine_132 : decode cX10_dollLine 132 = .ok (.iconst 1, 1) := by decide +kernel
theorem dX10_dollLine_133 : decode cX10_dollLine 133 = .ok (.iadd, 1) := by decide +kernel
theorem dX10_dollLine_134 : decode cX10_dollLine 134 = .ok (.invokevirtual 214, 3) := by decide +kernel
theorem dX10_dollLine_137 : decode cX10_dollLine 137 = .ok (.return_, 1) := by decide +kernel
theorem dX10_lawLine_0 : decode cX10_lawLine 0 = .ok (.aload_n 0, 1) := by decide +kernel
theorem dX10_lawLine_1 : decode cX10_lawLine 1 = .ok (.getfield 143, 3) := by decide +kernel
theorem dX10_lawLine_4 : decode cX10_lawLine 4 = .ok (.ifCond .ne 21, 3) := by decide +kernel
theorem dX10_lawLine_7 : decode cX10_lawLine 7 = .ok (.aload_n 0, 1) := by decide +kernel
theorem dX10_lawLine_8 : decode cX10_lawLine 8 = .ok (.getfield 153, 3) := by decide +kernel
theorem dX10_lawLine_11 : decode cX10_lawLine 11 = .ok (.bipush 9, 2) := by decide +kernel
theorem dX10_lawLine_13 : decode cX10_lawLine 13 = .ok (.if_icmp .lt 12, 3) := by decide +kernel
theorem dX10_lawLine_16 : decode cX10_lawLine 16 = .ok (.aload_n 0, 1) := by decide +kernel
theorem dX10_lawLine_17 : decode cX10_lawLine 17 = .ok (.getfield 153, 3) := by decide +kernel
theorem dX10_lawLine_20 : decode cX10_lawLine 20 = .ok (.bipush 11, 2) := by decide +kernel
theorem dX10_lawLine_22 : decode cX10_lawLine 22 = .ok (.if_icmp .le 8, 3) := by decide +kernel
theorem dX10_lawLine_25 : decode cX10_lawLine 25 = .ok (.aload_n 0, 1) := by decide +kernel
theorem dX10_lawLine_26 : decode cX10_lawLine 26 = .ok (.iconst 1, 1) := by decide +kernel
theorem dX10_lawLine_27 : decode cX10_lawLine 27 = .ok (.invokevirtual 187, 3) := by decide +kernel
theorem dX10_lawLine_30 : decode cX10_lawLine 30 = .ok (.aload_n 0, 1) := by decide +kernel
theorem dX10_lawLine_31 : decode cX10_lawLine 31 = .ok (.getfield 153, 3) := by decide +kernel
theorem dX10_lawLine_34 : decode cX10_lawLine 34 = .ok (.bipush 9, 2) := by decide +kernel
theorem dX10_lawLine_36 : decode cX10_lawLine 36 = .ok (.isub, 1) := by decide +kernel
theorem dX10_lawLine_37 : decode cX10_lawLine 37 = .ok (.istore_n 1, 1) := by decide +kernel
theorem dX10_lawLine_38 : decode cX10_lawLine 38 = .ok (.aload_n 0, 1) := by decide +kernel
theorem dX10_lawLine_39 : decode cX10_lawLine 39 = .ok (.getfield 178, 3) := by decide +kernel
theorem dX10_lawLine_42 : decode cX10_lawLine 42 = .ok (.ifCond .ne 23, 3) := by decide +kernel
theorem dX10_lawLine_45 : decode cX10_lawLine 45 = .ok (.aload_n 0, 1) := by decide +kernel
theorem dX10_lawLine_46 : decode cX10_lawLine 46 = .ok (.getfield 201, 3) := by decide +kernel
theorem dX10_lawLine_49 : decode cX10_lawLine 49 = .ok (.bipush 16, 2) := by decide +kernel
theorem dX10_lawLine_51 : decode cX10_lawLine 51 = .ok (.iload_n 1, 1) := by decide +kernel
theorem dX10_lawLine_52 : decode cX10_lawLine 52 = .ok (.iadd, 1) := by decide +kernel
theorem dX10_lawLine_53 : decode cX10_lawLine 53 = .ok (.ishr, 1) := by decide +kernel
theorem dX10_lawLine_54 : decode cX10_lawLine 54 = .ok (.iconst 1, 1) := by decide +kernel
theorem dX10_lawLine_55 : decode cX10_lawLine 55 = .ok (.iand, 1) := by decide +kernel
theorem dX10_lawLine_56 : decode cX10_lawLine 56 = .ok (.iconst 1, 1) := by decide +kernel
theorem dX10_lawLine_57 : decode cX10_lawLine 57 = .ok (.if_icmp .ne 8, 3) := by decide +kernel
theorem dX10_lawLine_60 : decode cX10_lawLine 60 = .ok (.aload_n 0, 1) := by decide +kernel
theorem dX10_lawLine_61 : decode cX10_lawLine 61 = .ok (.iconst 3, 1) := by decide +kernel
theorem dX10_lawLine_62 : decode cX10_lawLine 62 = .ok (.invokevirtual 187, 3) := by decide +kernel
theorem dX10_lawLine_65 : decode cX10_lawLine 65 = .ok (.aload_n 0, 1) := by decide +kernel
theorem dX10_lawLine_66 : decode cX10_lawLine 66 = .ok (.getfield 178, 3) := by decide +kernel
theorem dX10_lawLine_69 : decode cX10_lawLine 69 = .ok (.ifCond .eq 4, 3) := by decide +kernel
theorem dX10_lawLine_72 : decode cX10_lawLine 72 = .ok (.return_, 1) := by decide +kernel
theorem dX10_lawLine_73 : decode cX10_lawLine 73 = .ok (.aload_n 0, 1) := by decide +kernel
theorem dX10_lawLine_74 : decode cX10_lawLine 74 = .ok (.dup, 1) := by decide +kernel
theorem dX10_lawLine_75 : decode cX10_lawLine 75 = .ok (.getfield 201, 3) := by decide +kernel
theorem dX10_lawLine_78 : decode cX10_lawLine 78 = .ok (.iconst 1, 1) := by decide +kernel
theorem dX10_lawLine_79 : decode cX10_lawLine 79 = .ok (.bipush 16, 2) := by decide +kernel
theorem dX10_lawLine_81 : decode cX10_lawLine 81 = .ok (.iload_n 1, 1) := by decide +kernel
theorem dX10_lawLine_82 : decode cX10_lawLine 82 = .ok (.iadd, 1) := by decide +kernel
theorem dX10_lawLine_83 : decode cX10_lawLine 83 = .ok (.ishl, 1) := by decide +kernel
theorem dX10_lawLine_84 : decode cX10_lawLine 84 = .ok (.ior, 1) := by decide +kernel
theorem dX10_lawLine_85 : decode cX10_lawLine 85 = .ok (.putfield 201, 3) := by decide +kernel
theorem dX10_lawLine_88 : decode cX10_lawLine 88 = .ok (.aload_n 0, 1) := by decide +kernel
theorem dX10_lawLine_89 : decode cX10_lawLine 89 = .ok (.invokevirtual 184, 3) := by decide +kernel
theorem dX10_lawLine_92 : decode cX10_lawLine 92 = .ok (.aload_n 0, 1) := by decide +kernel
theorem dX10_lawLine_93 : decode cX10_lawLine 93 = .ok (.getfield 37, 3) := by decide +kernel
theorem dX10_lawLine_96 : decode cX10_lawLine 96 = .ok (.iconst 3, 1) := by decide +kernel
theorem dX10_lawLine_97 : decode cX10_lawLine 97 = .ok (.iload_n 1, 1) := by decide +kernel
theorem dX10_lawLine_98 : decode cX10_lawLine 98 = .ok (.iadd, 1) := by decide +kernel
theorem dX10_lawLine_99 : decode cX10_lawLine 99 = .ok (.aload_n 0, 1) := by decide +kernel
theorem dX10_lawLine_100 : decode cX10_lawLine 100 = .ok (.bipush 6, 2) := by decide +kernel
theorem dX10_lawLine_102 : decode cX10_lawLine 102 = .ok (.invokevirtual 194, 3) := by decide +kernel
theorem dX10_lawLine_105 : decode cX10_lawLine 105 = .ok (.iastore, 1) := by decide +kernel
theorem dX10_lawLine_106 : decode cX10_lawLine 106 = .ok (.aload_n 0, 1) := by decide +kernel
theorem dX10_lawLine_107 : decode cX10_lawLine 107 = .ok (.invokevirtual 234, 3) := by decide +kernel
theorem dX10_lawLine_110 : decode cX10_lawLine 110 = .ok (.aload_n 0, 1) := by decide +kernel
theorem dX10_lawLine_111 : decode cX10_lawLine 111 = .ok (.getfield 40, 3) := by decide +kernel
theorem dX10_lawLine_114 : decode cX10_lawLine 114 = .ok (.iconst 3, 1) := by decide +kernel
theorem dX10_lawLine_115 : decode cX10_lawLine 115 = .ok (.iload_n 1, 1) := by decide +kernel
theorem dX10_lawLine_116 : decode cX10_lawLine 116 = .ok (.iadd, 1) := by decide +kernel
theorem dX10_lawLine_117 : decode cX10_lawLine 117 = .ok (.aload_n 0, 1) := by decide +kernel
theorem dX10_lawLine_118 : decode cX10_lawLine 118 = .ok (.bipush 6, 2) := by decide +kernel
theorem dX10_lawLine_120 : decode cX10_lawLine 120 = .ok (.invokevirtual 194, 3) := by decide +kernel
theorem dX10_lawLine_123 : decode cX10_lawLine 123 = .ok (.iastore, 1) := by decide +kernel
theorem dX10_lawLine_124 : decode cX10_lawLine 124 = .ok (.return_, 1) := by decide +kernel
theorem dX10_puts_0 : decode cX10_puts 0 = .ok (.aload_n 0, 1) := by decide +kernel
theorem dX10_puts_1 : decode cX10_puts 1 = .ok (.getfield 178, 3) := by decide +kernel
theorem dX10_puts_4 : decode cX10_puts 4 = .ok (.ifCond .eq 4, 3) := by decide +kernel
theorem dX10_puts_7 : decode cX10_puts 7 = .ok (.return_, 1) := by decide +kernel
theorem dX10_puts_8 : decode cX10_puts 8 = .ok (.aload_n 0, 1) := by decide +kernel
theorem dX10_puts_9 : decode cX10_puts 9 = .ok (.getfield 43, 3) := by decide +kernel
theorem dX10_puts_12 : decode cX10_puts 12 = .ok (.bipush 64, 2) := by decide +kernel
theorem dX10_puts_14 : decode cX10_puts 14 = .ok (.aload_n 0, 1) := by decide +kernel
theorem dX10_puts_15 : decode cX10_puts 15 = .ok (.bipush 6, 2) := by decide +kernel
theorem dX10_puts_17 : decode cX10_puts 17 = .ok (.invokevirtual 194, 3) := by decide +kernel
theorem dX10_puts_20 : decode cX10_puts 20 = .ok (.iadd, 1) := by decide +kernel
theorem dX10_puts_21 : decode cX10_puts 21 = .ok (.iload_n 1, 1) := by decide +kernel
theorem dX10_puts_22 : decode cX10_puts 22 = .ok (.iastore, 1) := by decide +kernel
theorem dX10_puts_23 : decode cX10_puts 23 = .ok (.aload_n 0, 1) := by decide +kernel
theorem dX10_puts_24 : decode cX10_puts 24 = .ok (.getfield 46, 3) := by decide +kernel
theorem dX10_puts_27 : decode cX10_puts 27 = .ok (.bipush 64, 2) := by decide +kernel
theorem dX10_puts_29 : decode cX10_puts 29 = .ok (.aload_n 0, 1) := by decide +kernel
theorem dX10_puts_30 : decode cX10_puts 30 = .ok (.bipush 6, 2) := by decide +kernel
theorem dX10_puts_32 : decode cX10_puts 32 = .ok (.invokevirtual 194, 3) := by decide +kernel
theorem dX10_puts_35 : decode cX10_puts 35 = .ok (.iadd, 1) := by decide +kernel
theorem dX10_puts_36 : decode cX10_puts 36 = .ok (.iload_n 2, 1) := by decide +kernel
theorem dX10_puts_37 : decode cX10_puts 37 = .ok (.iastore, 1) := by decide +kernel
theorem dX10_puts_38 : decode cX10_puts 38 = .ok (.aload_n 0, 1) := by decide +kernel
theorem dX10_puts_39 : decode cX10_puts 39 = .ok (.bipush 6, 2) := by decide +kernel
theorem dX10_puts_41 : decode cX10_puts 41 = .ok (.aload_n 0, 1) := by decide +kernel
theorem dX10_puts_42 : decode cX10_puts 42 = .ok (.bipush 6, 2) := by decide +kernel
theorem dX10_puts_44 : decode cX10_puts 44 = .ok (.invokevirtual 194, 3) := by decide +kernel
theorem dX10_puts_47 : decode cX10_puts 47 = .ok (.iconst 1, 1) := by decide +kernel
theorem dX10_puts_48 : decode cX10_puts 48 = .ok (.iadd, 1) := by decide +kernel
theorem dX10_puts_49 : decode cX10_puts 49 = .ok (.invokevirtual 214, 3) := by decide +kernel
theorem dX10_puts_52 : decode cX10_puts 52 = .ok (.return_, 1) := by decide +kernel
theorem dX10_knot_0 : decode cX10_knot 0 = .ok (.aload_n 0, 1) := by decide +kernel
theorem dX10_knot_1 : decode cX10_knot 1 = .ok (.getfield 178, 3) := by decide +kernel
theorem dX10_knot_4 : decode cX10_knot 4 = .ok (.ifCond .eq 4, 3) := by decide +kernel
theorem dX10_knot_7 : decode cX10_knot 7 = .ok (.return_, 1) := by decide +kernel
theorem dX10_knot_8 : decode cX10_knot 8 = .ok (.aload_n 0, 1) := by decide +kernel
theorem dX10_knot_9 : decode cX10_knot 9 = .ok (.getfield 237, 3) := by decide +kernel
theorem dX10_knot_12 : decode cX10_knot 12 = .ok (.bipush 64, 2) := by decide +kernel
theorem dX10_knot_14 : decode cX10_knot 14 = .ok (.if_icmp .ne 11, 3) := by decide +kernel
theorem dX10_knot_17 : decode cX10_knot 17 = .ok (.aload_n 0, 1) := by decide +kernel
theorem dX10_knot_18 : decode cX10_knot 18 = .ok (.iconst 2, 1) := by decide +kernel
theorem dX10_knot_19 : decode cX10_knot 19 = .ok (.invokevirtual 187, 3) := by decide +kernel
theorem dX10_knot_22 : decode cX10_knot 22 = .ok (.goto 13, 3) := by decide +kernel
theorem dX10_knot_25 : decode cX10_knot 25 = .ok (.aload_n 0, 1) := by decide +kernel
theorem dX10_knot_26 : decode cX10_knot 26 = .ok (.dup, 1) := by decide +kernel
theorem dX10_knot_27 : decode cX10_knot 27 = .ok (.getfield 237, 3) := by decide +kernel
theorem dX10_knot_30 : decode cX10_knot 30 = .ok (.iconst 1, 1) := by decide +kernel
theorem dX10_knot_31 : decode cX10_knot 31 = .ok (.iadd, 1) := by decide +kernel
theorem dX10_knot_32 : decode cX10_knot 32 = .ok (.putfield 237, 3) := by decide +kernel
theorem dX10_knot_35 : decode cX10_knot 35 = .ok (.return_, 1) := by decide +kernel
theorem dX10_expression_0 : decode cX10_expression 0 = .ok (.aload_n 0, 1) := by decide +kernel
theorem dX10_expression_1 : decode cX10_expression 1 = .ok (.invokevirtual 240, 3) := by decide +kernel
theorem dX10_expression_4 : decode cX10_expression 4 = .ok (.aload_n 0, 1) := by decide +kernel
theorem dX10_expression_5 : decode cX10_expression 5 = .ok (.bipush 12, 2) := by decide +kernel
theorem dX10_expression_7 : decode cX10_expression 7 = .ok (.invokevirtual 243, 3) := by decide +kernel
theorem dX10_expression_10 : decode cX10_expression 10 = .ok (.ifCond .eq 26, 3) := by decide +kernel
theorem dX10_expression_13 : decode cX10_expression 13 = .ok (.aload_n 0, 1) := by decide +kernel
theorem dX10_expression_14 : decode cX10_expression 14 = .ok (.invokevirtual 246, 3) := by decide +kernel
theorem dX10_expression_17 : decode cX10_expression 17 = .ok (.aload_n 0, 1) := by decide +kernel
theorem dX10_expression_18 : decode cX10_expression 18 = .ok (.invokevirtual 231, 3) := by decide +kernel
theorem dX10_expression_21 : decode cX10_expression 21 = .ok (.aload_n 0, 1) := by decide +kernel
theorem dX10_expression_22 : decode cX10_expression 22 = .ok (.invokevirtual 240, 3) := by decide +kernel
theorem dX10_expression_25 : decode cX10_expression 25 = .ok (.aload_n 0, 1) := by decide +kernel
theorem dX10_expression_26 : decode cX10_expression 26 = .ok (.iconst 2, 1) := by decide +kernel
theorem dX10_expression_27 : decode cX10_expression 27 = .ok (.sipush 262, 3) := by decide +kernel
theorem dX10_expression_30 : decode cX10_expression 30 = .ok (.invokevirtual 249, 3) := by decide +kernel
theorem dX10_expression_33 : decode cX10_expression 33 = .ok (.goto (-29), 3) := by decide +kernel
theorem dX10_expression_36 : decode cX10_expression 36 = .ok (.return_, 1) := by decide +kernel
theorem dX10_conjunction_0 : decode cX10_conjunction 0 = .ok (.aload_n 0, 1) := by decide +kernel
theorem dX10_conjunction_1 : decode cX10_conjunction 1 = .ok (.invokevirtual 252, 3) := by decide +kernel
theorem dX10_conjunction_4 : decode cX10_conjunction 4 = .ok (.aload_n 0, 1) := by decide +kernel
theorem dX10_conjunction_5 : decode cX10_conjunction 5 = .ok (.bipush 13, 2) := by decide +kernel
theorem dX10_conjunction_7 : decode cX10_conjunction 7 = .ok (.invokevirtual 243, 3) := by decide +kernel
theorem dX10_conjunction_10 : decode cX10_conjunction 10 = .ok (.ifCond .eq 26, 3) := by decide +kernel
theorem dX10_conjunction_13 : decode cX10_conjunction 13 = .ok (.aload_n 0, 1) := by decide +kernel
theorem dX10_conjunction_14 : decode cX10_conjunction 14 = .ok (.invokevirtual 246, 3) := by decide +kernel
theorem dX10_conjunction_17 : decode cX10_conjunction 17 = .ok (.aload_n 0, 1) := by decide +kernel
theorem dX10_conjunction_18 : decode cX10_conjunction 18 = .ok (.invokevirtual 231, 3) := by decide +kernel
theorem dX10_conjunction_21 : decode cX10_conjunction 21 = .ok (.aload_n 0, 1) := by decide +kernel
theorem dX10_conjunction_22 : decode cX10_conjunction 22 = .ok (.invokevirtual 252, 3) := by decide +kernel
theorem dX10_conjunction_25 : decode cX10_conjunction 25 = .ok (.aload_n 0, 1) := by decide +kernel
theorem dX10_conjunction_26 : decode cX10_conjunction 26 = .ok (.iconst 2, 1) := by decide +kernel
theorem dX10_conjunction_27 : decode cX10_conjunction 27 = .ok (.sipush 261, 3) := by decide +kernel
theorem dX10_conjunction_30 : decode cX10_conjunction 30 = .ok (.invokevirtual 249, 3) := by decide +kernel
theorem dX10_conjunction_33 : decode cX10_conjunction 33 = .ok (.goto (-29), 3) := by decide +kernel
theorem dX10_conjunction_36 : decode cX10_conjunction 36 = .ok (.return_, 1) := by decide +kernel
theorem dX10_negation_0 : decode cX10_negation 0 = .ok (.aload_n 0, 1) := by decide +kernel
theorem dX10_negation_1 : decode cX10_negation 1 = .ok (.bipush 14, 2) := by decide +kernel
theorem dX10_negation_3 : decode cX10_negation 3 = .ok (.invokevirtual 243, 3) := by decide +kernel
theorem dX10_negation_6 : decode cX10_negation 6 = .ok (.ifCond .eq 24, 3) := by decide +kernel
theorem dX10_negation_9 : decode cX10_negation 9 = .ok (.aload_n 0, 1) := by decide +kernel
theorem dX10_negation_10 : decode cX10_negation 10 = .ok (.invokevirtual 246, 3) := by decide +kernel
theorem dX10_negation_13 : decode cX10_negation 13 = .ok (.aload_n 0, 1) := by decide +kernel
theorem dX10_negation_14 : decode cX10_negation 14 = .ok (.invokevirtual 231, 3) := by decide +kernel
theorem dX10_negation_17 : decode cX10_negation 17 = .ok (.aload_n 0, 1) := by decide +kernel
theorem dX10_negation_18 : decode cX10_negation 18 = .ok (.invokevirtual 252, 3) := by decide +kernel
theorem dX10_negation_21 : decode cX10_negation 21 = .ok (.aload_n 0, 1) := by decide +kernel
theorem dX10_negation_22 : decode cX10_negation 22 = .ok (.iconst 2, 1) := by decide +kernel
theorem dX10_negation_23 : decode cX10_negation 23 = .ok (.sipush 260, 3) := by decide +kernel
theorem dX10_negation_26 : decode cX10_negation 26 = .ok (.invokevirtual 249, 3) := by decide +kernel
theorem dX10_negation_29 : decode cX10_negation 29 = .ok (.return_, 1) := by decide +kernel
theorem dX10_negation_30 : decode cX10_negation 30 = .ok (.aload_n 0, 1) := by decide +kernel
theorem dX10_negation_31 : decode cX10_negation 31 = .ok (.invokevirtual 255, 3) := by decide +kernel
theorem dX10_negation_34 : decode cX10_negation 34 = .ok (.aload_n 0, 1) := by decide +kernel
theorem dX10_negation_35 : decode cX10_negation 35 = .ok (.getfield 178, 3) := by decide +kernel
theorem dX10_negation_38 : decode cX10_negation 38 = .ok (.ifCond .ne 48, 3) := by decide +kernel
theorem dX10_negation_41 : decode cX10_negation 41 = .ok (.aload_n 0, 1) := by decide +kernel
theorem dX10_negation_42 : decode cX10_negation 42 = .ok (.getfield 143, 3) := by decide +kernel
theorem dX10_negation_45 : decode cX10_negation 45 = .ok (.iconst 3, 1) := by decide +kernel
theorem dX10_negation_46 : decode cX10_negation 46 = .ok (.if_icmp .ne 40, 3) := by decide +kernel
theorem dX10_negation_49 : decode cX10_negation 49 = .ok (.aload_n 0, 1) := by decide +kernel
theorem dX10_negation_50 : decode cX10_negation 50 = .ok (.getfield 153, 3) := by decide +kernel
theorem dX10_negation_53 : decode cX10_negation 53 = .ok (.bipush 60, 2) := by decide +kernel
theorem dX10_negation_55 : decode cX10_negation 55 = .ok (.if_icmp .eq 32, 3) := by decide +kernel
theorem dX10_negation_58 : decode cX10_negation 58 = .ok (.aload_n 0, 1) := by decide +kernel
theorem dX10_negation_59 : decode cX10_negation 59 = .ok (.getfield 153, 3) := by decide +kernel
theorem dX10_negation_62 : decode cX10_negation 62 = .ok (.bipush 62, 2) := by decide +kernel
theorem dX10_negation_64 : decode cX10_negation 64 = .ok (.if_icmp .eq 23, 3) := by decide +kernel
theorem dX10_negation_67 : decode cX10_negation 67 = .ok (.aload_n 0, 1) := by decide +kernel
theorem dX10_negation_68 : decode cX10_negation 68 = .ok (.getfield 153, 3) := by decide +kernel
theorem dX10_negation_71 : decode cX10_negation 71 = .ok (.bipush 61, 2) := by decide +kernel
theorem dX10_negation_73 : decode cX10_negation 73 = .ok (.if_icmp .eq 14, 3) := by decide +kernel
theorem dX10_negation_76 : decode cX10_negation 76 = .ok (.aload_n 0, 1) := by decide +kernel
theorem dX10_negation_77 : decode cX10_negation 77 = .ok (.getfield 153, 3) := by decide +kernel
theorem dX10_negation_80 : decode cX10_negation 80 = .ok (.sipush 256, 3) := by decide +kernel
theorem dX10_negation_83 : decode cX10_negation 83 = .ok (.if_icmp .ge 4, 3) := by decide +kernel
theorem dX10_negation_86 : decode cX10_negation 86 = .ok (.return_, 1) := by decide +kernel
theorem dX10_negation_87 : decode cX10_negation 87 = .ok (.aload_n 0, 1) := by decide +kernel
theorem dX10_negation_88 : decode cX10_negation 88 = .ok (.getfield 153, 3) := by decide +kernel
theorem dX10_negation_91 : decode cX10_negation 91 = .ok (.istore_n 1, 1) := by decide +kernel
theorem dX10_negation_92 : decode cX10_negation 92 = .ok (.aload_n 0, 1) := by decide +kernel
theorem dX10_negation_93 : decode cX10_negation 93 = .ok (.invokevirtual 246, 3) := by decide +kernel
theorem dX10_negation_96 : decode cX10_negation 96 = .ok (.aload_n 0, 1) := by decide +kernel
theorem dX10_negation_97 : decode cX10_negation 97 = .ok (.invokevirtual 231, 3) := by decide +kernel
theorem dX10_negation_100 : decode cX10_negation 100 = .ok (.aload_n 0, 1) := by decide +kernel
theorem dX10_negation_101 : decode cX10_negation 101 = .ok (.invokevirtual 255, 3) := by decide +kernel
theorem dX10_negation_104 : decode cX10_negation 104 = .ok (.aload_n 0, 1) := by decide +kernel
theorem dX10_negation_105 : decode cX10_negation 105 = .ok (.iconst 2, 1) := by decide +kernel
theorem dX10_negation_106 : decode cX10_negation 106 = .ok (.iload_n 1, 1) := by decide +kernel
theorem dX10_negation_107 : decode cX10_negation 107 = .ok (.invokevirtual 249, 3) := by decide +kernel
theorem dX10_negation_110 : decode cX10_negation 110 = .ok (.return_, 1) := by decide +kernel
theorem dX10_sum_0 : decode cX10_sum 0 = .ok (.aload_n 0, 1) := by decide +kernel
theorem dX10_sum_1 : decode cX10_sum 1 = .ok (.invokevirtual 258, 3) := by decide +kernel
theorem dX10_sum_4 : decode cX10_sum 4 = .ok (.aload_n 0, 1) := by decide +kernel
theorem dX10_sum_5 : decode cX10_sum 5 = .ok (.bipush 43, 2) := by decide +kernel
theorem dX10_sum_7 : decode cX10_sum 7 = .ok (.invokevirtual 221, 3) := by decide +kernel
theorem dX10_sum_10 : decode cX10_sum 10 = .ok (.ifCond .ne 12, 3) := by decide +kernel
theorem dX10_sum_13 : decode cX10_sum 13 = .ok (.aload_n 0, 1) := by decide +kernel
theorem dX10_sum_14 : decode cX10_sum 14 = .ok (.bipush 45, 2) := by decide +kernel
theorem dX10_sum_16 : decode cX10_sum 16 = .ok (.invokevirtual 221, 3) := by decide +kernel
theorem dX10_sum_19 : decode cX10_sum 19 = .ok (.ifCond .eq 29, 3) := by decide +kernel
theorem dX10_sum_22 : decode cX10_sum 22 = .ok (.aload_n 0, 1) := by decide +kernel
theorem dX10_sum_23 : decode cX10_sum 23 = .ok (.getfield 153, 3) := by decide +kernel
theorem dX10_sum_26 : decode cX10_sum 26 = .ok (.istore_n 1, 1) := by decide +kernel
theorem dX10_sum_27 : decode cX10_sum 27 = .ok (.aload_n 0, 1) := by decide +kernel
theorem dX10_sum_28 : decode cX10_sum 28 = .ok (.invokevirtual 246, 3) := by decide +kernel
theorem dX10_sum_31 : decode cX10_sum 31 = .ok (.aload_n 0, 1) := by decide +kernel
theorem dX10_sum_32 : decode cX10_sum 32 = .ok (.invokevirtual 231, 3) := by decide +kernel
theorem dX10_sum_35 : decode cX10_sum 35 = .ok (.aload_n 0, 1) := by decide +kernel
theorem dX10_sum_36 : decode cX10_sum 36 = .ok (.invokevirtual 258, 3) := by decide +kernel
theorem dX10_sum_39 : decode cX10_sum 39 = .ok (.aload_n 0, 1) := by decide +kernel
theorem dX10_sum_40 : decode cX10_sum 40 = .ok (.iconst 2, 1) := by decide +kernel
theorem dX10_sum_41 : decode cX10_sum 41 = .ok (.iload_n 1, 1) := by decide +kernel
theorem dX10_sum_42 : decode cX10_sum 42 = .ok (.invokevirtual 249, 3) := by decide +kernel
theorem dX10_sum_45 : decode cX10_sum 45 = .ok (.goto (-41), 3) := by decide +kernel
theorem dX10_sum_48 : decode cX10_sum 48 = .ok (.return_, 1) := by decide +kernel
theorem dX10_product_0 : decode cX10_product 0 = .ok (.aload_n 0, 1) := by decide +kernel
theorem dX10_product_1 : decode cX10_product 1 = .ok (.invokevirtual 261, 3) := by decide +kernel
theorem dX10_product_4 : decode cX10_product 4 = .ok (.aload_n 0, 1) := by decide +kernel
theorem dX10_product_5 : decode cX10_product 5 = .ok (.bipush 42, 2) := by decide +kernel
theorem dX10_product_7 : decode cX10_product 7 = .ok (.invokevirtual 221, 3) := by decide +kernel
theorem dX10_product_10 : decode cX10_product 10 = .ok (.ifCond .ne 12, 3) := by decide +kernel
theorem dX10_product_13 : decode cX10_product 13 = .ok (.aload_n 0, 1) := by decide +kernel
theorem dX10_product_14 : decode cX10_product 14 = .ok (.bipush 47, 2) := by decide +kernel
theorem dX10_product_16 : decode cX10_product 16 = .ok (.invokevirtual 221, 3) := by decide +kernel
theorem dX10_product_19 : decode cX10_product 19 = .ok (.ifCond .eq 29, 3) := by decide +kernel
theorem dX10_product_22 : decode cX10_product 22 = .ok (.aload_n 0, 1) := by decide +kernel
theorem dX10_product_23 : decode cX10_product 23 = .ok (.getfield 153, 3) := by decide +kernel
theorem dX10_product_26 : decode cX10_product 26 = .ok (.istore_n 1, 1) := by decide +kernel
theorem dX10_product_27 : decode cX10_product 27 = .ok (.aload_n 0, 1) := by decide +kernel
theorem dX10_product_28 : decode cX10_product 28 = .ok (.invokevirtual 246, 3) := by decide +kernel
theorem dX10_product_31 : decode cX10_product 31 = .ok (.aload_n 0, 1) := by decide +kernel
theorem dX10_product_32 : decode cX10_product 32 = .ok (.invokevirtual 231, 3) := by decide +kernel
theorem dX10_product_35 : decode cX10_product 35 = .ok (.aload_n 0, 1) := by decide +kernel
theorem dX10_product_36 : decode cX10_product 36 = .ok (.invokevirtual 261, 3) := by decide +kernel
theorem dX10_product_39 : decode cX10_product 39 = .ok (.aload_n 0, 1) := by decide +kernel
theorem dX10_product_40 : decode cX10_product 40 = .ok (.iconst 2, 1) := by decide +kernel
theorem dX10_product_41 : decode cX10_product 41 = .ok (.iload_n 1, 1) := by decide +kernel
theorem dX10_product_42 : decode cX10_product 42 = .ok (.invokevirtual 249, 3) := by decide +kernel
theorem dX10_product_45 : decode cX10_product 45 = .ok (.goto (-41), 3) := by decide +kernel
theorem dX10_product_48 : decode cX10_product 48 = .ok (.return_, 1) := by decide +kernel
theorem dX10_primary_0 : decode cX10_primary 0 = .ok (.aload_n 0, 1) := by decide +kernel
theorem dX10_primary_1 : decode cX10_primary 1 = .ok (.getfield 178, 3) := by decide +kernel
theorem dX10_primary_4 : decode cX10_primary 4 = .ok (.ifCond .eq 4, 3) := by decide +kernel
theorem dX10_primary_7 : decode cX10_primary 7 = .ok (.return_, 1) := by decide +kernel
theorem dX10_primary_8 : decode cX10_primary 8 = .ok (.aload_n 0, 1) := by decide +kernel
theorem dX10_primary_9 : decode cX10_primary 9 = .ok (.bipush 40, 2) := by decide +kernel
theorem dX10_primary_11 : decode cX10_primary 11 = .ok (.invokevirtual 221, 3) := by decide +kernel
theorem dX10_primary_14 : decode cX10_primary 14 = .ok (.ifCond .eq 87, 3) := by decide +kernel
theorem dX10_primary_17 : decode cX10_primary 17 = .ok (.aload_n 0, 1) := by decide +kernel
theorem dX10_primary_18 : decode cX10_primary 18 = .ok (.getfield 264, 3) := by decide +kernel
theorem dX10_primary_21 : decode cX10_primary 21 = .ok (.bipush 8, 2) := by decide +kernel
theorem dX10_primary_23 : decode cX10_primary 23 = .ok (.if_icmp .ne 8, 3) := by decide +kernel
theorem dX10_primary_26 : decode cX10_primary 26 = .ok (.aload_n 0, 1) := by decide +kernel
theorem dX10_primary_27 : decode cX10_primary 27 = .ok (.iconst 2, 1) := by decide +kernel
theorem dX10_primary_28 : decode cX10_primary 28 = .ok (.invokevirtual 187, 3) := by decide +kernel
theorem dX10_primary_31 : decode cX10_primary 31 = .ok (.aload_n 0, 1) := by decide +kernel
theorem dX10_primary_32 : decode cX10_primary 32 = .ok (.getfield 178, 3) := by decide +kernel
theorem dX10_primary_35 : decode cX10_primary 35 = .ok (.ifCond .eq 4, 3) := by decide +kernel
theorem dX10_primary_38 : decode cX10_primary 38 = .ok (.return_, 1) := by decide +kernel
theorem dX10_primary_39 : decode cX10_primary 39 = .ok (.aload_n 0, 1) := by decide +kernel
theorem dX10_primary_40 : decode cX10_primary 40 = .ok (.dup, 1) := by decide +kernel
theorem dX10_primary_41 : decode cX10_primary 41 = .ok (.getfield 264, 3) := by decide +kernel
theorem dX10_primary_44 : decode cX10_primary 44 = .ok (.iconst 1, 1) := by decide +kernel
theorem dX10_primary_45 : decode cX10_primary 45 = .ok (.iadd, 1) := by decide +kernel
theorem dX10_primary_46 : decode cX10_primary 46 = .ok (.putfield 264, 3) := by decide +kernel
theorem dX10_primary_49 : decode cX10_primary 49 = .ok (.aload_n 0, 1) := by decide +kernel
theorem dX10_primary_50 : decode cX10_primary 50 = .ok (.invokevirtual 184, 3) := by decide +kernel
theorem dX10_primary_53 : decode cX10_primary 53 = .ok (.aload_n 0, 1) := by decide +kernel
theorem dX10_primary_54 : decode cX10_primary 54 = .ok (.invokevirtual 234, 3) := by decide +kernel
theorem dX10_primary_57 : decode cX10_primary 57 = .ok (.aload_n 0, 1) := by decide +kernel
theorem dX10_primary_58 : decode cX10_primary 58 = .ok (.getfield 178, 3) := by decide +kernel
theorem dX10_primary_61 : decode cX10_primary 61 = .ok (.ifCond .ne 17, 3) := by decide +kernel
theorem dX10_primary_64 : decode cX10_primary 64 = .ok (.aload_n 0, 1) := by decide +kernel
theorem dX10_primary_65 : decode cX10_primary 65 = .ok (.bipush 41, 2) := by decide +kernel
theorem dX10_primary_67 : decode cX10_primary 67 = .ok (.invokevirtual 221, 3) := by decide +kernel
theorem dX10_primary_70 : decode cX10_primary 70 = .ok (.ifCond .ne 8, 3) := by decide +kernel
theorem dX10_primary_73 : decode cX10_primary 73 = .ok (.aload_n 0, 1) := by decide +kernel
theorem dX10_primary_74 : decode cX10_primary 74 = .ok (.iconst 1, 1) := by decide +kernel
theorem dX10_primary_75 : decode cX10_primary 75 = .ok (.invokevirtual 187, 3) := by decide +kernel
theorem dX10_primary_78 : decode cX10_primary 78 = .ok (.aload_n 0, 1) := by decide +kernel
theorem dX10_primary_79 : decode cX10_primary 79 = .ok (.getfield 178, 3) := by decide +kernel
theorem dX10_primary_82 : decode cX10_primary 82 = .ok (.ifCond .eq 4, 3) := by decide +kernel
theorem dX10_primary_85 : decode cX10_primary 85 = .ok (.return_, 1) := by decide +kernel
theorem dX10_primary_86 : decode cX10_primary 86 = .ok (.aload_n 0, 1) := by decide +kernel
theorem dX10_primary_87 : decode cX10_primary 87 = .ok (.dup, 1) := by decide +kernel
theorem dX10_primary_88 : decode cX10_primary 88 = .ok (.getfield 264, 3) := by decide +kernel
theorem dX10_primary_91 : decode cX10_primary 91 = .ok (.iconst 1, 1) := by decide +kernel
theorem dX10_primary_92 : decode cX10_primary 92 = .ok (.isub, 1) := by decide +kernel
theorem dX10_primary_93 : decode cX10_primary 93 = .ok (.putfield 264, 3) := by decide +kernel
theorem dX10_primary_96 : decode cX10_primary 96 = .ok (.aload_n 0, 1) := by decide +kernel
theorem dX10_primary_97 : decode cX10_primary 97 = .ok (.invokevirtual 184, 3) := by decide +kernel
theorem dX10_primary_100 : decode cX10_primary 100 = .ok (.return_, 1) := by decide +kernel
theorem dX10_primary_101 : decode cX10_primary 101 = .ok (.aload_n 0, 1) := by decide +kernel
theorem dX10_primary_102 : decode cX10_primary 102 = .ok (.getfield 143, 3) := by decide +kernel
theorem dX10_primary_105 : decode cX10_primary 105 = .ok (.iconst 2, 1) := by decide +kernel
theorem dX10_primary_106 : decode cX10_primary 106 = .ok (.if_icmp .ne 7, 3) := by decide +kernel
theorem dX10_primary_109 : decode cX10_primary 109 = .ok (.iconst 1, 1) := by decide +kernel
theorem dX10_primary_110 : decode cX10_primary 110 = .ok (.goto 4, 3) := by decide +kernel
theorem dX10_primary_113 : decode cX10_primary 113 = .ok (.iconst 0, 1) := by decide +kernel
theorem dX10_primary_114 : decode cX10_primary 114 = .ok (.istore_n 1, 1) := by decide +kernel
theorem dX10_primary_115 : decode cX10_primary 115 = .ok (.iload_n 1, 1) := by decide +kernel
theorem dX10_primary_116 : decode cX10_primary 116 = .ok (.ifCond .eq 21, 3) := by decide +kernel
theorem dX10_primary_119 : decode cX10_primary 119 = .ok (.aload_n 0, 1) := by decide +kernel
theorem dX10_primary_120 : decode cX10_primary 120 = .ok (.getfield 153, 3) := by decide +kernel
theorem dX10_primary_123 : decode cX10_primary 123 = .ok (.sipush 9999, 3) := by decide +kernel
theorem dX10_primary_126 : decode cX10_primary 126 = .ok (.if_icmp .le 11, 3) := by decide +kernel
theorem dX10_primary_129 : decode cX10_primary 129 = .ok (.aload_n 0, 1) := by decide +kernel
theorem dX10_primary_130 : decode cX10_primary 130 = .ok (.iconst 2, 1) := by decide +kernel
theorem dX10_primary_131 : decode cX10_primary 131 = .ok (.invokevirtual 187, 3) := by decide +kernel
theorem dX10_primary_134 : decode cX10_primary 134 = .ok (.goto 28, 3) := by decide +kernel
theorem dX10_primary_137 : decode cX10_primary 137 = .ok (.iload_n 1, 1) := by decide +kernel
theorem dX10_primary_138 : decode cX10_primary 138 = .ok (.ifCond .ne 24, 3) := by decide +kernel
theorem dX10_primary_141 : decode cX10_primary 141 = .ok (.aload_n 0, 1) := by decide +kernel
theorem dX10_primary_142 : decode cX10_primary 142 = .ok (.getfield 143, 3) := by decide +kernel
theorem dX10_primary_145 : decode cX10_primary 145 = .ok (.ifCond .ne 12, 3) := by decide +kernel
theorem dX10_primary_148 : decode cX10_primary 148 = .ok (.aload_n 0, 1) := by decide +kernel
theorem dX10_primary_149 : decode cX10_primary 149 = .ok (.getfield 153, 3) := by decide +kernel
theorem dX10_primary_152 : decode cX10_primary 152 = .ok (.bipush 15, 2) := by decide +kernel
theorem dX10_primary_154 : decode cX10_primary 154 = .ok (.if_icmp .ge 8, 3) := by decide +kernel
theorem dX10_primary_157 : decode cX10_primary 157 = .ok (.aload_n 0, 1) := by decide +kernel
theorem dX10_primary_158 : decode cX10_primary 158 = .ok (.iconst 1, 1) := by decide +kernel
theorem dX10_primary_159 : decode cX10_primary 159 = .ok (.invokevirtual 187, 3) := by decide +kernel
theorem dX10_primary_162 : decode cX10_primary 162 = .ok (.aload_n 0, 1) := by decide +kernel
theorem dX10_primary_163 : decode cX10_primary 163 = .ok (.invokevirtual 246, 3) := by decide +kernel
theorem dX10_primary_166 : decode cX10_primary 166 = .ok (.aload_n 0, 1) := by decide +kernel
theorem dX10_primary_167 : decode cX10_primary 167 = .ok (.iload_n 1, 1) := by decide +kernel
theorem dX10_primary_168 : decode cX10_primary 168 = .ok (.ifCond .eq 7, 3) := by decide +kernel
theorem dX10_primary_171 : decode cX10_primary 171 = .ok (.iconst 0, 1) := by decide +kernel
theorem dX10_primary_172 : decode cX10_primary 172 = .ok (.goto 4, 3) := by decide +kernel
theorem dX10_primary_175 : decode cX10_primary 175 = .ok (.iconst 1, 1) := by decide +kernel
theorem dX10_primary_176 : decode cX10_primary 176 = .ok (.iload_n 1, 1) := by decide +kernel
theorem dX10_primary_177 : decode cX10_primary 177 = .ok (.ifCond .eq 10, 3) := by decide +kernel
theorem dX10_primary_180 : decode cX10_primary 180 = .ok (.aload_n 0, 1) := by decide +kernel
theorem dX10_primary_181 : decode cX10_primary 181 = .ok (.getfield 153, 3) := by decide +kernel
theorem dX10_primary_184 : decode cX10_primary 184 = .ok (.goto 10, 3) := by decide +kernel
theorem dX10_primary_187 : decode cX10_primary 187 = .ok (.aload_n 0, 1) := by decide +kernel
theorem dX10_primary_188 : decode cX10_primary 188 = .ok (.getfield 153, 3) := by decide +kernel
theorem dX10_primary_191 : decode cX10_primary 191 = .ok (.bipush 15, 2) := by decide +kernel
theorem dX10_primary_193 : decode cX10_primary 193 = .ok (.isub, 1) := by decide +kernel
theorem dX10_primary_194 : decode cX10_primary 194 = .ok (.invokevirtual 249, 3) := by decide +kernel
theorem dX10_primary_197 : decode cX10_primary 197 = .ok (.aload_n 0, 1) := by decide +kernel
theorem dX10_primary_198 : decode cX10_primary 198 = .ok (.invokevirtual 231, 3) := by decide +kernel
theorem dX10_primary_201 : decode cX10_primary 201 = .ok (.return_, 1) := by decide +kernel
theorem dX10_half_0 : decode cX10_half 0 = .ok (.aload_n 0, 1) := by decide +kernel
theorem dX10_half_1 : decode cX10_half 1 = .ok (.arraylength, 1) := by decide +kernel
theorem dX10_half_2 : decode cX10_half 2 = .ok (.iconst 2, 1) := by decide +kernel
theorem dX10_half_3 : decode cX10_half 3 = .ok (.idiv, 1) := by decide +kernel
theorem dX10_half_4 : decode cX10_half 4 = .ok (.istore_n 1, 1) := by decide +kernel
theorem dX10_half_5 : decode cX10_half 5 = .ok (.iconst 0, 1) := by decide +kernel
theorem dX10_half_6 : decode cX10_half 6 = .ok (.istore_n 2, 1) := by decide +kernel
theorem dX10_half_7 : decode cX10_half 7 = .ok (.iload_n 2, 1) := by decide +kernel
theorem dX10_half_8 : decode cX10_half 8 = .ok (.iload_n 1, 1) := by decide +kernel
theorem dX10_half_9 : decode cX10_half 9 = .ok (.if_icmp .ge 17, 3) := by decide +kernel
theorem dX10_half_12 : decode cX10_half 12 = .ok (.aload_n 0, 1) := by decide +kernel
theorem dX10_half_13 : decode cX10_half 13 = .ok (.iload_n 2, 1) := by decide +kernel
theorem dX10_half_14 : decode cX10_half 14 = .ok (.aload_n 0, 1) := by decide +kernel
theorem dX10_half_15 : decode cX10_half 15 = .ok (.iload_n 1, 1) := by decide +kernel
theorem dX10_half_16 : decode cX10_half 16 = .ok (.iload_n 2, 1) := by decide +kernel
theorem dX10_half_17 : decode cX10_half 17 = .ok (.iadd, 1) := by decide +kernel
theorem dX10_half_18 : decode cX10_half 18 = .ok (.iaload, 1) := by decide +kernel
theorem dX10_half_19 : decode cX10_half 19 = .ok (.iastore, 1) := by decide +kernel
theorem dX10_half_20 : decode cX10_half 20 = .ok (.iinc 2 1, 3) := by decide +kernel
theorem dX10_half_23 : decode cX10_half 23 = .ok (.goto (-16), 3) := by decide +kernel
theorem dX10_half_26 : decode cX10_half 26 = .ok (.return_, 1) := by decide +kernel
theorem dX10_text_0 : decode cX10_text 0 = .ok (.aload_n 0, 1) := by decide +kernel
theorem dX10_text_1 : decode cX10_text 1 = .ok (.iconst 0, 1) := by decide +kernel
theorem dX10_text_2 : decode cX10_text 2 = .ok (.putfield 124, 3) := by decide +kernel
theorem dX10_text_5 : decode cX10_text 5 = .ok (.iload_n 1, 1) := by decide +kernel
theorem dX10_text_6 : decode cX10_text 6 = .ok (.ifCond .lt 11, 3) := by decide +kernel
theorem dX10_text_9 : decode cX10_text 9 = .ok (.iload_n 1, 1) := by decide +kernel
theorem dX10_text_10 : decode cX10_text 10 = .ok (.aload_n 0, 1) := by decide +kernel
theorem dX10_text_11 : decode cX10_text 11 = .ok (.getfield 127, 3) := by decide +kernel
theorem dX10_text_14 : decode cX10_text 14 = .ok (.if_icmp .le 6, 3) := by decide +kernel
theorem dX10_text_17 : decode cX10_text 17 = .ok (.bipush (-2), 2) := by decide +kernel
theorem dX10_text_19 : decode cX10_text 19 = .ok (.ireturn, 1) := by decide +kernel
theorem dX10_text_20 : decode cX10_text 20 = .ok (.aload_n 0, 1) := by decide +kernel
theorem dX10_text_21 : decode cX10_text 21 = .ok (.iload_n 1, 1) := by decide +kernel
theorem dX10_text_22 : decode cX10_text 22 = .ok (.putfield 133, 3) := by decide +kernel
theorem dX10_text_25 : decode cX10_text 25 = .ok (.aload_n 0, 1) := by decide +kernel
theorem dX10_text_26 : decode cX10_text 26 = .ok (.iconst 0, 1) := by decide +kernel
theorem dX10_text_27 : decode cX10_text 27 = .ok (.putfield 127, 3) := by decide +kernel
theorem dX10_text_30 : decode cX10_text 30 = .ok (.aload_n 0, 1) := by decide +kernel
theorem dX10_text_31 : decode cX10_text 31 = .ok (.iconst 0, 1) := by decide +kernel
theorem dX10_text_32 : decode cX10_text 32 = .ok (.putfield 130, 3) := by decide +kernel
theorem dX10_text_35 : decode cX10_text 35 = .ok (.aload_n 0, 1) := by decide +kernel
theorem dX10_text_36 : decode cX10_text 36 = .ok (.iconst 0, 1) := by decide +kernel
theorem dX10_text_37 : decode cX10_text 37 = .ok (.putfield 178, 3) := by decide +kernel
theorem dX10_text_40 : decode cX10_text 40 = .ok (.aload_n 0, 1) := by decide +kernel
theorem dX10_text_41 : decode cX10_text 41 = .ok (.iconst (-1), 1) := by decide +kernel
theorem dX10_text_42 : decode cX10_text 42 = .ok (.putfield 181, 3) := by decide +kernel
theorem dX10_text_45 : decode cX10_text 45 = .ok (.iconst 0, 1) := by decide +kernel
theorem dX10_text_46 : decode cX10_text 46 = .ok (.istore_n 2, 1) := by decide +kernel
theorem dX10_text_47 : decode cX10_text 47 = .ok (.iload_n 2, 1) := by decide +kernel
theorem dX10_text_48 : decode cX10_text 48 = .ok (.bipush 7, 2) := by decide +kernel
theorem dX10_text_50 : decode cX10_text 50 = .ok (.if_icmp .ge 39, 3) := by decide +kernel
theorem dX10_text_53 : decode cX10_text 53 = .ok (.aload_n 0, 1) := by decide +kernel
theorem dX10_text_54 : decode cX10_text 54 = .ok (.iload_n 2, 1) := by decide +kernel
theorem dX10_text_55 : decode cX10_text 55 = .ok (.iload_n 2, 1) := by decide +kernel
theorem dX10_text_56 : decode cX10_text 56 = .ok (.iconst 2, 1) := by decide +kernel
theorem dX10_text_57 : decode cX10_text 57 = .ok (.if_icmp .eq 8, 3) := by decide +kernel
theorem dX10_text_60 : decode cX10_text 60 = .ok (.iload_n 2, 1) := by decide +kernel
theorem dX10_text_61 : decode cX10_text 61 = .ok (.iconst 3, 1) := by decide +kernel
theorem dX10_text_62 : decode cX10_text 62 = .ok (.if_icmp .ne 8, 3) := by decide +kernel
theorem dX10_text_65 : decode cX10_text 65 = .ok (.bipush 20, 2) := by decide +kernel
theorem dX10_text_67 : decode cX10_text 67 = .ok (.goto 13, 3) := by decide +kernel
theorem dX10_text_70 : decode cX10_text 70 = .ok (.iload_n 2, 1) := by decide +kernel
theorem dX10_text_71 : decode cX10_text 71 = .ok (.iconst 4, 1) := by decide +kernel
theorem dX10_text_72 : decode cX10_text 72 = .ok (.if_icmp .ne 7, 3) := by decide +kernel
theorem dX10_text_75 : decode cX10_text 75 = .ok (.iconst 5, 1) := by decide +kernel
theorem dX10_text_76 : decode cX10_text 76 = .ok (.goto 4, 3) := by decide +kernel
theorem dX10_text_79 : decode cX10_text 79 = .ok (.iconst 0, 1) := by decide +kernel
theorem dX10_text_80 : decode cX10_text 80 = .ok (.invokevirtual 214, 3) := by decide +kernel
theorem dX10_text_83 : decode cX10_text 83 = .ok (.iinc 2 1, 3) := by decide +kernel
theorem dX10_text_86 : decode cX10_text 86 = .ok (.goto (-39), 3) := by decide +kernel
theorem dX10_text_89 : decode cX10_text 89 = .ok (.iconst 3, 1) := by decide +kernel
theorem dX10_text_90 : decode cX10_text 90 = .ok (.istore_n 2, 1) := by decide +kernel
theorem dX10_text_91 : decode cX10_text 91 = .ok (.iload_n 2, 1) := by decide +kernel
theorem dX10_text_92 : decode cX10_text 92 = .ok (.bipush 6, 2) := by decide +kernel
theorem dX10_text_94 : decode cX10_text 94 = .ok (.if_icmp .ge 23, 3) := by decide +kernel
theorem dX10_text_97 : decode cX10_text 97 = .ok (.aload_n 0, 1) := by decide +kernel
theorem dX10_text_98 : decode cX10_text 98 = .ok (.getfield 37, 3) := by decide +kernel
theorem dX10_text_101 : decode cX10_text 101 = .ok (.iload_n 2, 1) := by decide +kernel
theorem dX10_text_102 : decode cX10_text 102 = .ok (.iconst 0, 1) := by decide +kernel
theorem dX10_text_103 : decode cX10_text 103 = .ok (.iastore, 1) := by decide +kernel
theorem dX10_text_104 : decode cX10_text 104 = .ok (.aload_n 0, 1) := by decide +kernel
theorem dX10_text_105 : decode cX10_text 105 = .ok (.getfield 40, 3) := by decide +kernel
theorem dX10_text_108 : decode cX10_text 108 = .ok (.iload_n 2, 1) := by decide +kernel
theorem dX10_text_109 : decode cX10_text 109 = .ok (.iconst 0, 1) := by decide +kernel
theorem dX10_text_110 : decode cX10_text 110 = .ok (.iastore, 1) := by decide +kernel
theorem dX10_text_111 : decode cX10_text 111 = .ok (.iinc 2 1, 3) := by decide +kernel
theorem dX10_text_114 : decode cX10_text 114 = .ok (.goto (-23), 3) := by decide +kernel
theorem dX10_text_117 : decode cX10_text 117 = .ok (.aload_n 0, 1) := by decide +kernel
theorem dX10_text_118 : decode cX10_text 118 = .ok (.iconst 0, 1) := by decide +kernel
theorem dX10_text_119 : decode cX10_text 119 = .ok (.putfield 201, 3) := by decide +kernel
theorem dX10_text_122 : decode cX10_text 122 = .ok (.aload_n 0, 1) := by decide +kernel
theorem dX10_text_123 : decode cX10_text 123 = .ok (.iconst 0, 1) := by decide +kernel
theorem dX10_text_124 : decode cX10_text 124 = .ok (.putfield 224, 3) := by decide +kernel
theorem dX10_text_127 : decode cX10_text 127 = .ok (.aload_n 0, 1) := by decide +kernel
theorem dX10_text_128 : decode cX10_text 128 = .ok (.iconst 0, 1) := by decide +kernel
theorem dX10_text_129 : decode cX10_text 129 = .ok (.putfield 264, 3) := by decide +kernel
theorem dX10_text_132 : decode cX10_text 132 = .ok (.aload_n 0, 1) := by decide +kernel
theorem dX10_text_133 : decode cX10_text 133 = .ok (.iconst 0, 1) := by decide +kernel
theorem dX10_text_134 : decode cX10_text 134 = .ok (.putfield 237, 3) := by decide +kernel
theorem dX10_text_137 : decode cX10_text 137 = .ok (.aload_n 0, 1) := by decide +kernel
theorem dX10_text_138 : decode cX10_text 138 = .ok (.invokevirtual 184, 3) := by decide +kernel
theorem dX10_text_141 : decode cX10_text 141 = .ok (.aload_n 0, 1) := by decide +kernel
theorem dX10_text_142 : decode cX10_text 142 = .ok (.getfield 178, 3) := by decide +kernel
theorem dX10_text_145 : decode cX10_text 145 = .ok (.ifCond .ne 18, 3) := by decide +kernel
theorem dX10_text_148 : decode cX10_text 148 = .ok (.aload_n 0, 1) := by decide +kernel
theorem dX10_text_149 : decode cX10_text 149 = .ok (.getfield 143, 3) := by decide +kernel
theorem dX10_text_152 : decode cX10_text 152 = .ok (.iconst 4, 1) := by decide +kernel
theorem dX10_text_153 : decode cX10_text 153 = .ok (.if_icmp .eq 10, 3) := by decide +kernel
theorem dX10_text_156 : decode cX10_text 156 = .ok (.aload_n 0, 1) := by decide +kernel
theorem dX10_text_157 : decode cX10_text 157 = .ok (.invokevirtual 267, 3) := by decide +kernel
theorem dX10_text_160 : decode cX10_text 160 = .ok (.goto (-19), 3) := by decide +kernel
theorem dX10_text_163 : decode cX10_text 163 = .ok (.aload_n 0, 1) := by decide +kernel
theorem dX10_text_164 : decode cX10_text 164 = .ok (.aload_n 0, 1) := by decide +kernel
theorem dX10_text_165 : decode cX10_text 165 = .ok (.getfield 178, 3) := by decide +kernel
theorem dX10_text_168 : decode cX10_text 168 = .ok (.putfield 270, 3) := by decide +kernel
theorem dX10_text_171 : decode cX10_text 171 = .ok (.aload_n 0, 1) := by decide +kernel
theorem dX10_text_172 : decode cX10_text 172 = .ok (.aload_n 0, 1) := by decide +kernel
theorem dX10_text_173 : decode cX10_text 173 = .ok (.getfield 181, 3) := by decide +kernel
theorem dX10_text_176 : decode cX10_text 176 = .ok (.putfield 49, 3) := by decide +kernel
theorem dX10_text_179 : decode cX10_text 179 = .ok (.aload_n 0, 1) := by decide +kernel
theorem dX10_text_180 : decode cX10_text 180 = .ok (.getfield 178, 3) := by decide +kernel
theorem dX10_text_183 : decode cX10_text 183 = .ok (.ifCond .eq 5, 3) := by decide +kernel
theorem dX10_text_186 : decode cX10_text 186 = .ok (.iconst (-1), 1) := by decide +kernel
theorem dX10_text_187 : decode cX10_text 187 = .ok (.ireturn, 1) := by decide +kernel
theorem dX10_text_188 : decode cX10_text 188 = .ok (.aload_n 0, 1) := by decide +kernel
theorem dX10_text_189 : decode cX10_text 189 = .ok (.getfield 13, 3) := by decide +kernel
theorem dX10_text_192 : decode cX10_text 192 = .ok (.invokestatic 273, 3) := by decide +kernel
theorem dX10_text_195 : decode cX10_text 195 = .ok (.aload_n 0, 1) := by decide +kernel
theorem dX10_text_196 : decode cX10_text 196 = .ok (.getfield 16, 3) := by decide +kernel
theorem dX10_text_199 : decode cX10_text 199 = .ok (.invokestatic 273, 3) := by decide +kernel
theorem dX10_text_202 : decode cX10_text 202 = .ok (.aload_n 0, 1) := by decide +kernel
theorem dX10_text_203 : decode cX10_text 203 = .ok (.getfield 19, 3) := by decide +kernel
theorem dX10_text_206 : decode cX10_text 206 = .ok (.invokestatic 273, 3) := by decide +kernel
theorem dX10_text_209 : decode cX10_text 209 = .ok (.aload_n 0, 1) := by decide +kernel
theorem dX10_text_210 : decode cX10_text 210 = .ok (.getfield 22, 3) := by decide +kernel
theorem dX10_text_213 : decode cX10_text 213 = .ok (.invokestatic 273, 3) := by decide +kernel
theorem dX10_text_216 : decode cX10_text 216 = .ok (.aload_n 0, 1) := by decide +kernel
theorem dX10_text_217 : decode cX10_text 217 = .ok (.getfield 25, 3) := by decide +kernel
theorem dX10_text_220 : decode cX10_text 220 = .ok (.invokestatic 273, 3) := by decide +kernel
theorem dX10_text_223 : decode cX10_text 223 = .ok (.aload_n 0, 1) := by decide +kernel
theorem dX10_text_224 : decode cX10_text 224 = .ok (.getfield 28, 3) := by decide +kernel
theorem dX10_text_227 : decode cX10_text 227 = .ok (.invokestatic 273, 3) := by decide +kernel
theorem dX10_text_230 : decode cX10_text 230 = .ok (.aload_n 0, 1) := by decide +kernel
theorem dX10_text_231 : decode cX10_text 231 = .ok (.getfield 31, 3) := by decide +kernel
theorem dX10_text_234 : decode cX10_text 234 = .ok (.invokestatic 273, 3) := by decide +kernel
theorem dX10_text_237 : decode cX10_text 237 = .ok (.aload_n 0, 1) := by decide +kernel
theorem dX10_text_238 : decode cX10_text 238 = .ok (.getfield 34, 3) := by decide +kernel
theorem dX10_text_241 : decode cX10_text 241 = .ok (.invokestatic 273, 3) := by decide +kernel
theorem dX10_text_244 : decode cX10_text 244 = .ok (.aload_n 0, 1) := by decide +kernel
theorem dX10_text_245 : decode cX10_text 245 = .ok (.getfield 37, 3) := by decide +kernel
theorem dX10_text_248 : decode cX10_text 248 = .ok (.invokestatic 273, 3) := by decide +kernel
theorem dX10_text_251 : decode cX10_text 251 = .ok (.aload_n 0, 1) := by decide +kernel
theorem dX10_text_252 : decode cX10_text 252 = .ok (.getfield 40, 3) := by decide +kernel
theorem dX10_text_255 : decode cX10_text 255 = .ok (.invokestatic 273, 3) := by decide +kernel
theorem dX10_text_258 : decode cX10_text 258 = .ok (.aload_n 0, 1) := by decide +kernel
theorem dX10_text_259 : decode cX10_text 259 = .ok (.getfield 43, 3) := by decide +kernel
theorem dX10_text_262 : decode cX10_text 262 = .ok (.invokestatic 273, 3) := by decide +kernel
theorem dX10_text_265 : decode cX10_text 265 = .ok (.aload_n 0, 1) := by decide +kernel
theorem dX10_text_266 : decode cX10_text 266 = .ok (.getfield 46, 3) := by decide +kernel
theorem dX10_text_269 : decode cX10_text 269 = .ok (.invokestatic 273, 3) := by decide +kernel
theorem dX10_text_272 : decode cX10_text 272 = .ok (.aload_n 0, 1) := by decide +kernel
theorem dX10_text_273 : decode cX10_text 273 = .ok (.iconst 0, 1) := by decide +kernel
theorem dX10_text_274 : decode cX10_text 274 = .ok (.putfield 277, 3) := by decide +kernel
theorem dX10_text_277 : decode cX10_text 277 = .ok (.aload_n 0, 1) := by decide +kernel
theorem dX10_text_278 : decode cX10_text 278 = .ok (.iconst (-1), 1) := by decide +kernel
theorem dX10_text_279 : decode cX10_text 279 = .ok (.putfield 99, 3) := by decide +kernel
theorem dX10_text_282 : decode cX10_text 282 = .ok (.aload_n 0, 1) := by decide +kernel
theorem dX10_text_283 : decode cX10_text 283 = .ok (.iconst 0, 1) := by decide +kernel
theorem dX10_text_284 : decode cX10_text 284 = .ok (.putfield 280, 3) := by decide +kernel
theorem dX10_text_287 : decode cX10_text 287 = .ok (.aload_n 0, 1) := by decide +kernel
theorem dX10_text_288 : decode cX10_text 288 = .ok (.iconst 0, 1) := by decide +kernel
theorem dX10_text_289 : decode cX10_text 289 = .ok (.putfield 284, 3) := by decide +kernel
theorem dX10_text_292 : decode cX10_text 292 = .ok (.aload_n 0, 1) := by decide +kernel
theorem dX10_text_293 : decode cX10_text 293 = .ok (.invokevirtual 121, 3) := by decide +kernel
theorem dX10_text_296 : decode cX10_text 296 = .ok (.aload_n 0, 1) := by decide +kernel
theorem dX10_text_297 : decode cX10_text 297 = .ok (.getfield 224, 3) := by decide +kernel
theorem dX10_text_300 : decode cX10_text 300 = .ok (.ireturn, 1) := by decide +kernel
theorem dX10_fault_0 : decode cX10_fault 0 = .ok (.aload_n 0, 1) := by decide +kernel
theorem dX10_fault_1 : decode cX10_fault 1 = .ok (.iconst 0, 1) := by decide +kernel
theorem dX10_fault_2 : decode cX10_fault 2 = .ok (.putfield 124, 3) := by decide +kernel
theorem dX10_fault_5 : decode cX10_fault 5 = .ok (.iload_n 1, 1) := by decide +kernel
theorem dX10_fault_6 : decode cX10_fault 6 = .ok (.ifCond .ne 10, 3) := by decide +kernel
theorem dX10_fault_9 : decode cX10_fault 9 = .ok (.aload_n 0, 1) := by decide +kernel
theorem dX10_fault_10 : decode cX10_fault 10 = .ok (.getfield 270, 3) := by decide +kernel
theorem dX10_fault_13 : decode cX10_fault 13 = .ok (.goto 16, 3) := by decide +kernel
theorem dX10_fault_16 : decode cX10_fault 16 = .ok (.iload_n 1, 1) := by decide +kernel
theorem dX10_fault_17 : decode cX10_fault 17 = .ok (.iconst 1, 1) := by decide +kernel
theorem dX10_fault_18 : decode cX10_fault 18 = .ok (.if_icmp .ne 10, 3) := by decide +kernel
theorem dX10_fault_21 : decode cX10_fault 21 = .ok (.aload_n 0, 1) := by decide +kernel
theorem dX10_fault_22 : decode cX10_fault 22 = .ok (.getfield 49, 3) := by decide +kernel
theorem dX10_fault_25 : decode cX10_fault 25 = .ok (.goto 4, 3) := by decide +kernel
theorem dX10_fault_28 : decode cX10_fault 28 = .ok (.iconst (-1), 1) := by decide +kernel
theorem dX10_fault_29 : decode cX10_fault 29 = .ok (.ireturn, 1) := by decide +kernel
theorem dX10_named_0 : decode cX10_named 0 = .ok (.aload_n 0, 1) := by decide +kernel
theorem dX10_named_1 : decode cX10_named 1 = .ok (.iconst 0, 1) := by decide +kernel
theorem dX10_named_2 : decode cX10_named 2 = .ok (.putfield 124, 3) := by decide +kernel
theorem dX10_named_5 : decode cX10_named 5 = .ok (.iload_n 1, 1) := by decide +kernel
theorem dX10_named_6 : decode cX10_named 6 = .ok (.lookupswitch 58 #[(0, 26), (1, 42)], 26) := by decide +kernel
theorem dX10_named_32 : decode cX10_named 32 = .ok (.aload_n 0, 1) := by decide +kernel
theorem dX10_named_33 : decode cX10_named 33 = .ok (.getfield 16, 3) := by decide +kernel
theorem dX10_named_36 : decode cX10_named 36 = .ok (.iconst 0, 1) := by decide +kernel
theorem dX10_named_37 : decode cX10_named 37 = .ok (.aload_n 0, 1) := by decide +kernel
theorem dX10_named_38 : decode cX10_named 38 = .ok (.getfield 13, 3) := by decide +kernel
theorem dX10_named_41 : decode cX10_named 41 = .ok (.iconst 0, 1) := by decide +kernel
theorem dX10_named_42 : decode cX10_named 42 = .ok (.iaload, 1) := by decide +kernel
theorem dX10_named_43 : decode cX10_named 43 = .ok (.iload_n 2, 1) := by decide +kernel
theorem dX10_named_44 : decode cX10_named 44 = .ok (.invokestatic 190, 3) := by decide +kernel
theorem dX10_named_47 : decode cX10_named 47 = .ok (.ireturn, 1) := by decide +kernel
theorem dX10_named_48 : decode cX10_named 48 = .ok (.aload_n 0, 1) := by decide +kernel
theorem dX10_named_49 : decode cX10_named 49 = .ok (.getfield 25, 3) := by decide +kernel
theorem dX10_named_52 : decode cX10_named 52 = .ok (.iconst 0, 1) := by decide +kernel
theorem dX10_named_53 : decode cX10_named 53 = .ok (.aload_n 0, 1) := by decide +kernel
theorem dX10_named_54 : decode cX10_named 54 = .ok (.getfield 13, 3) := by decide +kernel
theorem dX10_named_57 : decode cX10_named 57 = .ok (.iconst 1, 1) := by decide +kernel
theorem dX10_named_58 : decode cX10_named 58 = .ok (.iaload, 1) := by decide +kernel
theorem dX10_named_59 : decode cX10_named 59 = .ok (.iload_n 2, 1) := by decide +kernel
theorem dX10_named_60 : decode cX10_named 60 = .ok (.invokestatic 190, 3) := by decide +kernel
theorem dX10_named_63 : decode cX10_named 63 = .ok (.ireturn, 1) := by decide +kernel
theorem dX10_named_64 : decode cX10_named 64 = .ok (.iconst (-1), 1) := by decide +kernel
theorem dX10_named_65 : decode cX10_named 65 = .ok (.ireturn, 1) := by decide +kernel
theorem dX10_is_0 : decode cX10_is 0 = .ok (.iload_n 0, 1) := by decide +kernel
theorem dX10_is_1 : decode cX10_is 1 = .ok (.ifCond .eq 7, 3) := by decide +kernel
theorem dX10_is_4 : decode cX10_is 4 = .ok (.lconst 1, 1) := by decide +kernel
theorem dX10_is_5 : decode cX10_is 5 = .ok (.goto 4, 3) := by decide +kernel
theorem dX10_is_8 : decode cX10_is 8 = .ok (.lconst 0, 1) := by decide +kernel
theorem dX10_is_9 : decode cX10_is 9 = .ok (.lreturn, 1) := by decide +kernel
theorem dX10_works_0 : decode cX10_works 0 = .ok (.aload_n 0, 1) := by decide +kernel
theorem dX10_works_1 : decode cX10_works 1 = .ok (.getfield 57, 3) := by decide +kernel
theorem dX10_works_4 : decode cX10_works 4 = .ok (.aload_n 0, 1) := by decide +kernel
theorem dX10_works_5 : decode cX10_works 5 = .ok (.getfield 287, 3) := by decide +kernel
theorem dX10_works_8 : decode cX10_works 8 = .ok (.iconst 1, 1) := by decide +kernel
theorem dX10_works_9 : decode cX10_works 9 = .ok (.isub, 1) := by decide +kernel
theorem dX10_works_10 : decode cX10_works 10 = .ok (.laload, 1) := by decide +kernel
theorem dX10_works_11 : decode cX10_works 11 = .ok (.lstore_n 2, 1) := by decide +kernel
theorem dX10_works_12 : decode cX10_works 12 = .ok (.iload_n 1, 1) := by decide +kernel
theorem dX10_works_13 : decode cX10_works 13 = .ok (.sipush 260, 3) := by decide +kernel
theorem dX10_works_16 : decode cX10_works 16 = .ok (.if_icmp .ne 30, 3) := by decide +kernel
theorem dX10_works_19 : decode cX10_works 19 = .ok (.aload_n 0, 1) := by decide +kernel
theorem dX10_works_20 : decode cX10_works 20 = .ok (.getfield 57, 3) := by decide +kernel
theorem dX10_works_23 : decode cX10_works 23 = .ok (.aload_n 0, 1) := by decide +kernel
theorem dX10_works_24 : decode cX10_works 24 = .ok (.getfield 287, 3) := by decide +kernel
theorem dX10_works_27 : decode cX10_works 27 = .ok (.iconst 1, 1) := by decide +kernel
theorem dX10_works_28 : decode cX10_works 28 = .ok (.isub, 1) := by decide +kernel
theorem dX10_works_29 : decode cX10_works 29 = .ok (.lload_n 2, 1) := by decide +kernel
theorem dX10_works_30 : decode cX10_works 30 = .ok (.lconst 0, 1) := by decide +kernel
theorem dX10_works_31 : decode cX10_works 31 = .ok (.lcmp, 1) := by decide +kernel
theorem dX10_works_32 : decode cX10_works 32 = .ok (.ifCond .ne 7, 3) := by decide +kernel
theorem dX10_works_35 : decode cX10_works 35 = .ok (.iconst 1, 1) := by decide +kernel
theorem dX10_works_36 : decode cX10_works 36 = .ok (.goto 4, 3) := by decide +kernel
theorem dX10_works_39 : decode cX10_works 39 = .ok (.iconst 0, 1) := by decide +kernel
theorem dX10_works_40 : decode cX10_works 40 = .ok (.invokestatic 290, 3) := by decide +kernel
theorem dX10_works_43 : decode cX10_works 43 = .ok (.lastore, 1) := by decide +kernel
theorem dX10_works_44 : decode cX10_works 44 = .ok (.iconst 1, 1) := by decide +kernel
theorem dX10_works_45 : decode cX10_works 45 = .ok (.ireturn, 1) := by decide +kernel
theorem dX10_works_46 : decode cX10_works 46 = .ok (.aload_n 0, 1) := by decide +kernel
theorem dX10_works_47 : decode cX10_works 47 = .ok (.getfield 57, 3) := by decide +kernel
theorem dX10_works_50 : decode cX10_works 50 = .ok (.aload_n 0, 1) := by decide +kernel
theorem dX10_works_51 : decode cX10_works 51 = .ok (.getfield 287, 3) := by decide +kernel
theorem dX10_works_54 : decode cX10_works 54 = .ok (.iconst 2, 1) := by decide +kernel
theorem dX10_works_55 : decode cX10_works 55 = .ok (.isub, 1) := by decide +kernel
theorem dX10_works_56 : decode cX10_works 56 = .ok (.laload, 1) := by decide +kernel
theorem dX10_works_57 : decode cX10_works 57 = .ok (.lstore 4, 2) := by decide +kernel
theorem dX10_works_59 : decode cX10_works 59 = .ok (.aload_n 0, 1) := by decide +kernel
theorem dX10_works_60 : decode cX10_works 60 = .ok (.dup, 1) := by decide +kernel
theorem dX10_works_61 : decode cX10_works 61 = .ok (.getfield 287, 3) := by decide +kernel
theorem dX10_works_64 : decode cX10_works 64 = .ok (.iconst 1, 1) := by decide +kernel
theorem dX10_works_65 : decode cX10_works 65 = .ok (.isub, 1) := by decide +kernel
theorem dX10_works_66 : decode cX10_works 66 = .ok (.putfield 287, 3) := by decide +kernel
theorem dX10_works_69 : decode cX10_works 69 = .ok (.iload_n 1, 1) := by decide +kernel
theorem dX10_works_70 : decode cX10_works 70 = .ok (.lookupswitch 314 #[(42, 116), (43, 98), (45, 107), (47, 151), (60, 168), (61, 208), (62, 188), (256, 228), (257, 268), (258, 248), (261, 288)], 98) := by decide +kernel
theorem dX10_works_168 : decode cX10_works 168 = .ok (.lload 4, 2) := by decide +kernel
theorem dX10_works_170 : decode cX10_works 170 = .ok (.lload_n 2, 1) := by decide +kernel
theorem dX10_works_171 : decode cX10_works 171 = .ok (.ladd, 1) := by decide +kernel
theorem dX10_works_172 : decode cX10_works 172 = .ok (.lstore 6, 2) := by decide +kernel
theorem dX10_works_174 : decode cX10_works 174 = .ok (.goto 233, 3) := by decide +kernel
theorem dX10_works_177 : decode cX10_works 177 = .ok (.lload 4, 2) := by decide +kernel
theorem dX10_works_179 : decode cX10_works 179 = .ok (.lload_n 2, 1) := by decide +kernel
theorem dX10_works_180 : decode cX10_works 180 = .ok (.lsub, 1) := by decide +kernel
theorem dX10_works_181 : decode cX10_works 181 = .ok (.lstore 6, 2) := by decide +kernel
theorem dX10_works_183 : decode cX10_works 183 = .ok (.goto 224, 3) := by decide +kernel
theorem dX10_works_186 : decode cX10_works 186 = .ok (.lload 4, 2) := by decide +kernel
theorem dX10_works_188 : decode cX10_works 188 = .ok (.lconst 0, 1) := by decide +kernel
theorem dX10_works_189 : decode cX10_works 189 = .ok (.lcmp, 1) := by decide +kernel
theorem dX10_works_190 : decode cX10_works 190 = .ok (.ifCond .eq 22, 3) := by decide +kernel
theorem dX10_works_193 : decode cX10_works 193 = .ok (.lload_n 2, 1) := by decide +kernel
theorem dX10_works_194 : decode cX10_works 194 = .ok (.invokestatic 294, 3) := by decide +kernel
theorem dX10_works_197 : decode cX10_works 197 = .ok (.ldc2_w 300, 3) := by decide +kernel
theorem dX10_works_200 : decode cX10_works 200 = .ok (.lload 4, 2) := by decide +kernel
theorem dX10_works_202 : decode cX10_works 202 = .ok (.invokestatic 294, 3) := by decide +kernel
theorem dX10_works_205 : decode cX10_works 205 = .ok (.ldiv, 1) := by decide +kernel
theorem dX10_works_206 : decode cX10_works 206 = .ok (.lcmp, 1) := by decide +kernel
theorem dX10_works_207 : decode cX10_works 207 = .ok (.ifCond .le 5, 3) := by decide +kernel
theorem dX10_works_210 : decode cX10_works 210 = .ok (.iconst 0, 1) := by decide +kernel
theorem dX10_works_211 : decode cX10_works 211 = .ok (.ireturn, 1) := by decide +kernel
theorem dX10_works_212 : decode cX10_works 212 = .ok (.lload 4, 2) := by decide +kernel
theorem dX10_works_214 : decode cX10_works 214 = .ok (.lload_n 2, 1) := by decide +kernel
theorem dX10_works_215 : decode cX10_works 215 = .ok (.lmul, 1) := by decide +kernel
theorem dX10_works_216 : decode cX10_works 216 = .ok (.lstore 6, 2) := by decide +kernel
theorem dX10_works_218 : decode cX10_works 218 = .ok (.goto 189, 3) := by decide +kernel
theorem dX10_works_221 : decode cX10_works 221 = .ok (.lload_n 2, 1) := by decide +kernel
theorem dX10_works_222 : decode cX10_works 222 = .ok (.lconst 0, 1) := by decide +kernel
theorem dX10_works_223 : decode cX10_works 223 = .ok (.lcmp, 1) := by decide +kernel
theorem dX10_works_224 : decode cX10_works 224 = .ok (.ifCond .ne 5, 3) := by decide +kernel
theorem dX10_works_227 : decode cX10_works 227 = .ok (.iconst 0, 1) := by decide +kernel
theorem dX10_works_228 : decode cX10_works 228 = .ok (.ireturn, 1) := by decide +kernel
theorem dX10_works_229 : decode cX10_works 229 = .ok (.lload 4, 2) := by decide +kernel
theorem dX10_works_231 : decode cX10_works 231 = .ok (.lload_n 2, 1) := by decide +kernel
theorem dX10_works_232 : decode cX10_works 232 = .ok (.ldiv, 1) := by decide +kernel
theorem dX10_works_233 : decode cX10_works 233 = .ok (.lstore 6, 2) := by decide +kernel
theorem dX10_works_235 : decode cX10_works 235 = .ok (.goto 172, 3) := by decide +kernel
theorem dX10_works_238 : decode cX10_works 238 = .ok (.lload 4, 2) := by decide +kernel
theorem dX10_works_240 : decode cX10_works 240 = .ok (.lload_n 2, 1) := by decide +kernel
theorem dX10_works_241 : decode cX10_works 241 = .ok (.lcmp, 1) := by decide +kernel
theorem dX10_works_242 : decode cX10_works 242 = .ok (.ifCond .ge 7, 3) := by decide +kernel
theorem dX10_works_245 : decode cX10_works 245 = .ok (.iconst 1, 1) := by decide +kernel
theorem dX10_works_246 : decode cX10_works 246 = .ok (.goto 4, 3) := by decide +kernel
theorem dX10_works_249 : decode cX10_works 249 = .ok (.iconst 0, 1) := by decide +kernel
theorem dX10_works_250 : decode cX10_works 250 = .ok (.invokestatic 290, 3) := by decide +kernel
theorem dX10_works_253 : decode cX10_works 253 = .ok (.lstore 6, 2) := by decide +kernel
theorem dX10_works_255 : decode cX10_works 255 = .ok (.goto 152, 3) := by decide +kernel
theorem dX10_works_258 : decode cX10_works 258 = .ok (.lload 4, 2) := by decide +kernel
theorem dX10_works_260 : decode cX10_works 260 = .ok (.lload_n 2, 1) := by decide +kernel
theorem dX10_works_261 : decode cX10_works 261 = .ok (.lcmp, 1) := by decide +kernel
theorem dX10_works_262 : decode cX10_works 262 = .ok (.ifCond .le 7, 3) := by decide +kernel
theorem dX10_works_265 : decode cX10_works 265 = .ok (.iconst 1, 1) := by decide +kernel
theorem dX10_works_266 : decode cX10_works 266 = .ok (.goto 4, 3) := by decide +kernel
theorem dX10_works_269 : decode cX10_works 269 = .ok (.iconst 0, 1) := by decide +kernel
theorem dX10_works_270 : decode cX10_works 270 = .ok (.invokestatic 290, 3) := by decide +kernel
theorem dX10_works_273 : decode cX10_works 273 = .ok (.lstore 6, 2) := by decide +kernel
theorem dX10_works_275 : decode cX10_works 275 = .ok (.goto 132, 3) := by decide +kernel
theorem dX10_works_278 : decode cX10_works 278 = .ok (.lload 4, 2) := by decide +kernel
theorem dX10_works_280 : decode cX10_works 280 = .ok (.lload_n 2, 1) := by decide +kernel
theorem dX10_works_281 : decode cX10_works 281 = .ok (.lcmp, 1) := by decide +kernel
theorem dX10_works_282 : decode cX10_works 282 = .ok (.ifCond .ne 7, 3) := by decide +kernel
theorem dX10_works_285 : decode cX10_works 285 = .ok (.iconst 1, 1) := by decide +kernel
theorem dX10_works_286 : decode cX10_works 286 = .ok (.goto 4, 3) := by decide +kernel
theorem dX10_works_289 : decode cX10_works 289 = .ok (.iconst 0, 1) := by decide +kernel
theorem dX10_works_290 : decode cX10_works 290 = .ok (.invokestatic 290, 3) := by decide +kernel
theorem dX10_works_293 : decode cX10_works 293 = .ok (.lstore 6, 2) := by decide +kernel
theorem dX10_works_295 : decode cX10_works 295 = .ok (.goto 112, 3) := by decide +kernel
theorem dX10_works_298 : decode cX10_works 298 = .ok (.lload 4, 2) := by decide +kernel
theorem dX10_works_300 : decode cX10_works 300 = .ok (.lload_n 2, 1) := by decide +kernel
theorem dX10_works_301 : decode cX10_works 301 = .ok (.lcmp, 1) := by decide +kernel
theorem dX10_works_302 : decode cX10_works 302 = .ok (.ifCond .gt 7, 3) := by decide +kernel
theorem dX10_works_305 : decode cX10_works 305 = .ok (.iconst 1, 1) := by decide +kernel
theorem dX10_works_306 : decode cX10_works 306 = .ok (.goto 4, 3) := by decide +kernel
theorem dX10_works_309 : decode cX10_works 309 = .ok (.iconst 0, 1) := by decide +kernel
theorem dX10_works_310 : decode cX10_works 310 = .ok (.invokestatic 290, 3) := by decide +kernel
theorem dX10_works_313 : decode cX10_works 313 = .ok (.lstore 6, 2) := by decide +kernel
theorem dX10_works_315 : decode cX10_works 315 = .ok (.goto 92, 3) := by decide +kernel
theorem dX10_works_318 : decode cX10_works 318 = .ok (.lload 4, 2) := by decide +kernel
theorem dX10_works_320 : decode cX10_works 320 = .ok (.lload_n 2, 1) := by decide +kernel
theorem dX10_works_321 : decode cX10_works 321 = .ok (.lcmp, 1) := by decide +kernel
theorem dX10_works_322 : decode cX10_works 322 = .ok (.ifCond .lt 7, 3) := by decide +kernel
theorem dX10_works_325 : decode cX10_works 325 = .ok (.iconst 1, 1) := by decide +kernel
theorem dX10_works_326 : decode cX10_works 326 = .ok (.goto 4, 3) := by decide +kernel
theorem dX10_works_329 : decode cX10_works 329 = .ok (.iconst 0, 1) := by decide +kernel
theorem dX10_works_330 : decode cX10_works 330 = .ok (.invokestatic 290, 3) := by decide +kernel
theorem dX10_works_333 : decode cX10_works 333 = .ok (.lstore 6, 2) := by decide +kernel
theorem dX10_works_335 : decode cX10_works 335 = .ok (.goto 72, 3) := by decide +kernel
theorem dX10_works_338 : decode cX10_works 338 = .ok (.lload 4, 2) := by decide +kernel
theorem dX10_works_340 : decode cX10_works 340 = .ok (.lload_n 2, 1) := by decide +kernel
theorem dX10_works_341 : decode cX10_works 341 = .ok (.lcmp, 1) := by decide +kernel
theorem dX10_works_342 : decode cX10_works 342 = .ok (.ifCond .eq 7, 3) := by decide +kernel
theorem dX10_works_345 : decode cX10_works 345 = .ok (.iconst 1, 1) := by decide +kernel
theorem dX10_works_346 : decode cX10_works 346 = .ok (.goto 4, 3) := by decide +kernel
theorem dX10_works_349 : decode cX10_works 349 = .ok (.iconst 0, 1) := by decide +kernel
theorem dX10_works_350 : decode cX10_works 350 = .ok (.invokestatic 290, 3) := by decide +kernel
theorem dX10_works_353 : decode cX10_works 353 = .ok (.lstore 6, 2) := by decide +kernel
theorem dX10_works_355 : decode cX10_works 355 = .ok (.goto 52, 3) := by decide +kernel
theorem dX10_works_358 : decode cX10_works 358 = .ok (.lload 4, 2) := by decide +kernel
theorem dX10_works_360 : decode cX10_works 360 = .ok (.lconst 0, 1) := by decide +kernel
theorem dX10_works_361 : decode cX10_works 361 = .ok (.lcmp, 1) := by decide +kernel
theorem dX10_works_362 : decode cX10_works 362 = .ok (.ifCond .eq 13, 3) := by decide +kernel
theorem dX10_works_365 : decode cX10_works 365 = .ok (.lload_n 2, 1) := by decide +kernel
theorem dX10_works_366 : decode cX10_works 366 = .ok (.lconst 0, 1) := by decide +kernel
theorem dX10_works_367 : decode cX10_works 367 = .ok (.lcmp, 1) := by decide +kernel
theorem dX10_works_368 : decode cX10_works 368 = .ok (.ifCond .eq 7, 3) := by decide +kernel
theorem dX10_works_371 : decode cX10_works 371 = .ok (.iconst 1, 1) := by decide +kernel
theorem dX10_works_372 : decode cX10_works 372 = .ok (.goto 4, 3) := by decide +kernel
theorem dX10_works_375 : decode cX10_works 375 = .ok (.iconst 0, 1) := by decide +kernel
theorem dX10_works_376 : decode cX10_works 376 = .ok (.invokestatic 290, 3) := by decide +kernel
theorem dX10_works_379 : decode cX10_works 379 = .ok (.lstore 6, 2) := by decide +kernel
theorem dX10_works_381 : decode cX10_works 381 = .ok (.goto 26, 3) := by decide +kernel
theorem dX10_works_384 : decode cX10_works 384 = .ok (.lload 4, 2) := by decide +kernel
theorem dX10_works_386 : decode cX10_works 386 = .ok (.lconst 0, 1) := by decide +kernel
theorem dX10_works_387 : decode cX10_works 387 = .ok (.lcmp, 1) := by decide +kernel
theorem dX10_works_388 : decode cX10_works 388 = .ok (.ifCond .ne 9, 3) := by decide +kernel
theorem dX10_works_391 : decode cX10_works 391 = .ok (.lload_n 2, 1) := by decide +kernel
theorem dX10_works_392 : decode cX10_works 392 = .ok (.lconst 0, 1) := by decide +kernel
theorem dX10_works_393 : decode cX10_works 393 = .ok (.lcmp, 1) := by decide +kernel
theorem dX10_works_394 : decode cX10_works 394 = .ok (.ifCond .eq 7, 3) := by decide +kernel
theorem dX10_works_397 : decode cX10_works 397 = .ok (.iconst 1, 1) := by decide +kernel
theorem dX10_works_398 : decode cX10_works 398 = .ok (.goto 4, 3) := by decide +kernel
theorem dX10_works_401 : decode cX10_works 401 = .ok (.iconst 0, 1) := by decide +kernel
theorem dX10_works_402 : decode cX10_works 402 = .ok (.invokestatic 290, 3) := by decide +kernel
theorem dX10_works_405 : decode cX10_works 405 = .ok (.lstore 6, 2) := by decide +kernel
theorem dX10_works_407 : decode cX10_works 407 = .ok (.aload_n 0, 1) := by decide +kernel
theorem dX10_works_408 : decode cX10_works 408 = .ok (.getfield 57, 3) := by decide +kernel
theorem dX10_works_411 : decode cX10_works 411 = .ok (.aload_n 0, 1) := by decide +kernel
theorem dX10_works_412 : decode cX10_works 412 = .ok (.getfield 287, 3) := by decide +kernel
theorem dX10_works_415 : decode cX10_works 415 = .ok (.iconst 1, 1) := by decide +kernel
theorem dX10_works_416 : decode cX10_works 416 = .ok (.isub, 1) := by decide +kernel
theorem dX10_works_417 : decode cX10_works 417 = .ok (.lload 6, 2) := by decide +kernel
theorem dX10_works_419 : decode cX10_works 419 = .ok (.lastore, 1) := by decide +kernel
theorem dX10_works_420 : decode cX10_works 420 = .ok (.lload 6, 2) := by decide +kernel
theorem dX10_works_422 : decode cX10_works 422 = .ok (.ldc2_w 300, 3) := by decide +kernel
theorem dX10_works_425 : decode cX10_works 425 = .ok (.lcmp, 1) := by decide +kernel
theorem dX10_works_426 : decode cX10_works 426 = .ok (.ifCond .gt 16, 3) := by decide +kernel
theorem dX10_works_429 : decode cX10_works 429 = .ok (.lload 6, 2) := by decide +kernel
theorem dX10_works_431 : decode cX10_works 431 = .ok (.ldc2_w 302, 3) := by decide +kernel
theorem dX10_works_434 : decode cX10_works 434 = .ok (.lcmp, 1) := by decide +kernel
theorem dX10_works_435 : decode cX10_works 435 = .ok (.ifCond .lt 7, 3) := by decide +kernel
theorem dX10_works_438 : decode cX10_works 438 = .ok (.iconst 1, 1) := by decide +kernel
theorem dX10_works_439 : decode cX10_works 439 = .ok (.goto 4, 3) := by decide +kernel
theorem dX10_works_442 : decode cX10_works 442 = .ok (.iconst 0, 1) := by decide +kernel
theorem dX10_works_443 : decode cX10_works 443 = .ok (.ireturn, 1) := by decide +kernel
theorem dX10_goes_0 : decode cX10_goes 0 = .ok (.aload_n 0, 1) := by decide +kernel
theorem dX10_goes_1 : decode cX10_goes 1 = .ok (.iconst 0, 1) := by decide +kernel
theorem dX10_goes_2 : decode cX10_goes 2 = .ok (.putfield 287, 3) := by decide +kernel
theorem dX10_goes_5 : decode cX10_goes 5 = .ok (.aload_n 0, 1) := by decide +kernel
theorem dX10_goes_6 : decode cX10_goes 6 = .ok (.getfield 37, 3) := by decide +kernel
theorem dX10_goes_9 : decode cX10_goes 9 = .ok (.iload_n 1, 1) := by decide +kernel
theorem dX10_goes_10 : decode cX10_goes 10 = .ok (.iaload, 1) := by decide +kernel
theorem dX10_goes_11 : decode cX10_goes 11 = .ok (.istore_n 2, 1) := by decide +kernel
theorem dX10_goes_12 : decode cX10_goes 12 = .ok (.iload_n 2, 1) := by decide +kernel
theorem dX10_goes_13 : decode cX10_goes 13 = .ok (.aload_n 0, 1) := by decide +kernel
theorem dX10_goes_14 : decode cX10_goes 14 = .ok (.getfield 40, 3) := by decide +kernel
theorem dX10_goes_17 : decode cX10_goes 17 = .ok (.iload_n 1, 1) := by decide +kernel
theorem dX10_goes_18 : decode cX10_goes 18 = .ok (.iaload, 1) := by decide +kernel
theorem dX10_goes_19 : decode cX10_goes 19 = .ok (.if_icmp .ge 83, 3) := by decide +kernel
theorem dX10_goes_22 : decode cX10_goes 22 = .ok (.aload_n 0, 1) := by decide +kernel
theorem dX10_goes_23 : decode cX10_goes 23 = .ok (.getfield 43, 3) := by decide +kernel
theorem dX10_goes_26 : decode cX10_goes 26 = .ok (.iload_n 2, 1) := by decide +kernel
theorem dX10_goes_27 : decode cX10_goes 27 = .ok (.iaload, 1) := by decide +kernel
theorem dX10_goes_28 : decode cX10_goes 28 = .ok (.iconst 2, 1) := by decide +kernel
theorem dX10_goes_29 : decode cX10_goes 29 = .ok (.if_icmp .ne 18, 3) := by decide +kernel
theorem dX10_goes_32 : decode cX10_goes 32 = .ok (.aload_n 0, 1) := by decide +kernel
theorem dX10_goes_33 : decode cX10_goes 33 = .ok (.aload_n 0, 1) := by decide +kernel
theorem dX10_goes_34 : decode cX10_goes 34 = .ok (.getfield 46, 3) := by decide +kernel
theorem dX10_goes_37 : decode cX10_goes 37 = .ok (.iload_n 2, 1) := by decide +kernel
theorem dX10_goes_38 : decode cX10_goes 38 = .ok (.iaload, 1) := by decide +kernel
theorem dX10_goes_39 : decode cX10_goes 39 = .ok (.invokevirtual 304, 3) := by decide +kernel
theorem dX10_goes_42 : decode cX10_goes 42 = .ok (.ifCond .ne 54, 3) := by decide +kernel
theorem dX10_goes_45 : decode cX10_goes 45 = .ok (.iconst 0, 1) := by decide +kernel
theorem dX10_goes_46 : decode cX10_goes 46 = .ok (.ireturn, 1) := by decide +kernel
theorem dX10_goes_47 : decode cX10_goes 47 = .ok (.aload_n 0, 1) := by decide +kernel
theorem dX10_goes_48 : decode cX10_goes 48 = .ok (.getfield 57, 3) := by decide +kernel
theorem dX10_goes_51 : decode cX10_goes 51 = .ok (.aload_n 0, 1) := by decide +kernel
theorem dX10_goes_52 : decode cX10_goes 52 = .ok (.getfield 287, 3) := by decide +kernel
theorem dX10_goes_55 : decode cX10_goes 55 = .ok (.aload_n 0, 1) := by decide +kernel
theorem dX10_goes_56 : decode cX10_goes 56 = .ok (.getfield 43, 3) := by decide +kernel
theorem dX10_goes_59 : decode cX10_goes 59 = .ok (.iload_n 2, 1) := by decide +kernel
theorem dX10_goes_60 : decode cX10_goes 60 = .ok (.iaload, 1) := by decide +kernel
theorem dX10_goes_61 : decode cX10_goes 61 = .ok (.ifCond .ne 13, 3) := by decide +kernel
theorem dX10_goes_64 : decode cX10_goes 64 = .ok (.aload_n 0, 1) := by decide +kernel
theorem dX10_goes_65 : decode cX10_goes 65 = .ok (.getfield 46, 3) := by decide +kernel
theorem dX10_goes_68 : decode cX10_goes 68 = .ok (.iload_n 2, 1) := by decide +kernel
theorem dX10_goes_69 : decode cX10_goes 69 = .ok (.iaload, 1) := by decide +kernel
theorem dX10_goes_70 : decode cX10_goes 70 = .ok (.i2l, 1) := by decide +kernel
theorem dX10_goes_71 : decode cX10_goes 71 = .ok (.goto 14, 3) := by decide +kernel
theorem dX10_goes_74 : decode cX10_goes 74 = .ok (.aload_n 0, 1) := by decide +kernel
theorem dX10_goes_75 : decode cX10_goes 75 = .ok (.getfield 53, 3) := by decide +kernel
theorem dX10_goes_78 : decode cX10_goes 78 = .ok (.aload_n 0, 1) := by decide +kernel
theorem dX10_goes_79 : decode cX10_goes 79 = .ok (.getfield 46, 3) := by decide +kernel
theorem dX10_goes_82 : decode cX10_goes 82 = .ok (.iload_n 2, 1) := by decide +kernel
theorem dX10_goes_83 : decode cX10_goes 83 = .ok (.iaload, 1) := by decide +kernel
theorem dX10_goes_84 : decode cX10_goes 84 = .ok (.laload, 1) := by decide +kernel
theorem dX10_goes_85 : decode cX10_goes 85 = .ok (.lastore, 1) := by decide +kernel
theorem dX10_goes_86 : decode cX10_goes 86 = .ok (.aload_n 0, 1) := by decide +kernel
theorem dX10_goes_87 : decode cX10_goes 87 = .ok (.dup, 1) := by decide +kernel
theorem dX10_goes_88 : decode cX10_goes 88 = .ok (.getfield 287, 3) := by decide +kernel
theorem dX10_goes_91 : decode cX10_goes 91 = .ok (.iconst 1, 1) := by decide +kernel
theorem dX10_goes_92 : decode cX10_goes 92 = .ok (.iadd, 1) := by decide +kernel
theorem dX10_goes_93 : decode cX10_goes 93 = .ok (.putfield 287, 3) := by decide +kernel
theorem dX10_goes_96 : decode cX10_goes 96 = .ok (.iinc 2 1, 3) := by decide +kernel
theorem dX10_goes_99 : decode cX10_goes 99 = .ok (.goto (-87), 3) := by decide +kernel
theorem dX10_goes_102 : decode cX10_goes 102 = .ok (.iconst 1, 1) := by decide +kernel
theorem dX10_goes_103 : decode cX10_goes 103 = .ok (.ireturn, 1) := by decide +kernel
theorem dX10_hasLaw_0 : decode cX10_hasLaw 0 = .ok (.aload_n 0, 1) := by decide +kernel
theorem dX10_hasLaw_1 : decode cX10_hasLaw 1 = .ok (.getfield 40, 3) := by decide +kernel
theorem dX10_hasLaw_4 : decode cX10_hasLaw 4 = .ok (.iload_n 1, 1) := by decide +kernel
theorem dX10_hasLaw_5 : decode cX10_hasLaw 5 = .ok (.iaload, 1) := by decide +kernel
theorem dX10_hasLaw_6 : decode cX10_hasLaw 6 = .ok (.aload_n 0, 1) := by decide +kernel
theorem dX10_hasLaw_7 : decode cX10_hasLaw 7 = .ok (.getfield 37, 3) := by decide +kernel
theorem dX10_hasLaw_10 : decode cX10_hasLaw 10 = .ok (.iload_n 1, 1) := by decide +kernel
theorem dX10_hasLaw_11 : decode cX10_hasLaw 11 = .ok (.iaload, 1) := by decide +kernel
theorem dX10_hasLaw_12 : decode cX10_hasLaw 12 = .ok (.if_icmp .le 7, 3) := by decide +kernel
theorem dX10_hasLaw_15 : decode cX10_hasLaw 15 = .ok (.iconst 1, 1) := by decide +kernel
theorem dX10_hasLaw_16 : decode cX10_hasLaw 16 = .ok (.goto 4, 3) := by decide +kernel
theorem dX10_hasLaw_19 : decode cX10_hasLaw 19 = .ok (.iconst 0, 1) := by decide +kernel
theorem dX10_hasLaw_20 : decode cX10_hasLaw 20 = .ok (.ireturn, 1) := by decide +kernel
theorem dX10_starts_0 : decode cX10_starts 0 = .ok (.aload_n 0, 1) := by decide +kernel
theorem dX10_starts_1 : decode cX10_starts 1 = .ok (.getfield 60, 3) := by decide +kernel
theorem dX10_starts_4 : decode cX10_starts 4 = .ok (.iload_n 1, 1) := by decide +kernel
theorem dX10_starts_5 : decode cX10_starts 5 = .ok (.iconst 0, 1) := by decide +kernel
theorem dX10_starts_6 : decode cX10_starts 6 = .ok (.iastore, 1) := by decide +kernel
theorem dX10_starts_7 : decode cX10_starts 7 = .ok (.aload_n 0, 1) := by decide +kernel
theorem dX10_starts_8 : decode cX10_starts 8 = .ok (.getfield 63, 3) := by decide +kernel
theorem dX10_starts_11 : decode cX10_starts 11 = .ok (.iload_n 1, 1) := by decide +kernel
theorem dX10_starts_12 : decode cX10_starts 12 = .ok (.aload_n 0, 1) := by decide +kernel
theorem dX10_starts_13 : decode cX10_starts 13 = .ok (.getfield 13, 3) := by decide +kernel
theorem dX10_starts_16 : decode cX10_starts 16 = .ok (.iconst 5, 1) := by decide +kernel
theorem dX10_starts_17 : decode cX10_starts 17 = .ok (.iaload, 1) := by decide +kernel
theorem dX10_starts_18 : decode cX10_starts 18 = .ok (.iastore, 1) := by decide +kernel
theorem dX10_starts_19 : decode cX10_starts 19 = .ok (.aload_n 0, 1) := by decide +kernel
theorem dX10_starts_20 : decode cX10_starts 20 = .ok (.getfield 66, 3) := by decide +kernel
theorem dX10_starts_23 : decode cX10_starts 23 = .ok (.iload_n 1, 1) := by decide +kernel
theorem dX10_starts_24 : decode cX10_starts 24 = .ok (.iconst 0, 1) := by decide +kernel
theorem dX10_starts_25 : decode cX10_starts 25 = .ok (.iastore, 1) := by decide +kernel
theorem dX10_starts_26 : decode cX10_starts 26 = .ok (.iconst 0, 1) := by decide +kernel
theorem dX10_starts_27 : decode cX10_starts 27 = .ok (.istore_n 2, 1) := by decide +kernel
theorem dX10_starts_28 : decode cX10_starts 28 = .ok (.iload_n 2, 1) := by decide +kernel
theorem dX10_starts_29 : decode cX10_starts 29 = .ok (.iconst 2, 1) := by decide +kernel
theorem dX10_starts_30 : decode cX10_starts 30 = .ok (.if_icmp .ge 31, 3) := by decide +kernel
theorem dX10_starts_33 : decode cX10_starts 33 = .ok (.aload_n 0, 1) := by decide +kernel
theorem dX10_starts_34 : decode cX10_starts 34 = .ok (.getfield 69, 3) := by decide +kernel
theorem dX10_starts_37 : decode cX10_starts 37 = .ok (.iconst 2, 1) := by decide +kernel
theorem dX10_starts_38 : decode cX10_starts 38 = .ok (.iload_n 1, 1) := by decide +kernel
theorem dX10_starts_39 : decode cX10_starts 39 = .ok (.imul, 1) := by decide +kernel
theorem dX10_starts_40 : decode cX10_starts 40 = .ok (.iload_n 2, 1) := by decide +kernel
theorem dX10_starts_41 : decode cX10_starts 41 = .ok (.iadd, 1) := by decide +kernel
theorem dX10_starts_42 : decode cX10_starts 42 = .ok (.iconst 0, 1) := by decide +kernel
theorem dX10_starts_43 : decode cX10_starts 43 = .ok (.iastore, 1) := by decide +kernel
theorem dX10_starts_44 : decode cX10_starts 44 = .ok (.aload_n 0, 1) := by decide +kernel
theorem dX10_starts_45 : decode cX10_starts 45 = .ok (.getfield 72, 3) := by decide +kernel
theorem dX10_starts_48 : decode cX10_starts 48 = .ok (.iconst 2, 1) := by decide +kernel
theorem dX10_starts_49 : decode cX10_starts 49 = .ok (.iload_n 1, 1) := by decide +kernel
theorem dX10_starts_50 : decode cX10_starts 50 = .ok (.imul, 1) := by decide +kernel
theorem dX10_starts_51 : decode cX10_starts 51 = .ok (.iload_n 2, 1) := by decide +kernel
theorem dX10_starts_52 : decode cX10_starts 52 = .ok (.iadd, 1) := by decide +kernel
theorem dX10_starts_53 : decode cX10_starts 53 = .ok (.iconst 0, 1) := by decide +kernel
theorem dX10_starts_54 : decode cX10_starts 54 = .ok (.iastore, 1) := by decide +kernel
theorem dX10_starts_55 : decode cX10_starts 55 = .ok (.iinc 2 1, 3) := by decide +kernel
theorem dX10_starts_58 : decode cX10_starts 58 = .ok (.goto (-30), 3) := by decide +kernel
theorem dX10_starts_61 : decode cX10_starts 61 = .ok (.iconst 0, 1) := by decide +kernel
theorem dX10_starts_62 : decode cX10_starts 62 = .ok (.istore_n 2, 1) := by decide +kernel
theorem dX10_starts_63 : decode cX10_starts 63 = .ok (.iload_n 2, 1) := by decide +kernel
theorem dX10_starts_64 : decode cX10_starts 64 = .ok (.bipush 10, 2) := by decide +kernel
theorem dX10_starts_66 : decode cX10_starts 66 = .ok (.if_icmp .ge 94, 3) := by decide +kernel
theorem dX10_starts_69 : decode cX10_starts 69 = .ok (.iload_n 2, 1) := by decide +kernel
theorem dX10_starts_70 : decode cX10_starts 70 = .ok (.aload_n 0, 1) := by decide +kernel
theorem dX10_starts_71 : decode cX10_starts 71 = .ok (.getfield 13, 3) := by decide +kernel
theorem dX10_starts_74 : decode cX10_starts 74 = .ok (.iconst 1, 1) := by decide +kernel
theorem dX10_starts_75 : decode cX10_starts 75 = .ok (.iaload, 1) := by decide +kernel
theorem dX10_starts_76 : decode cX10_starts 76 = .ok (.if_icmp .ge 7, 3) := by decide +kernel
theorem dX10_starts_79 : decode cX10_starts 79 = .ok (.iconst 1, 1) := by decide +kernel
theorem dX10_starts_80 : decode cX10_starts 80 = .ok (.goto 4, 3) := by decide +kernel
theorem dX10_starts_83 : decode cX10_starts 83 = .ok (.iconst 0, 1) := by decide +kernel
theorem dX10_starts_84 : decode cX10_starts 84 = .ok (.istore_n 3, 1) := by decide +kernel
theorem dX10_starts_85 : decode cX10_starts 85 = .ok (.aload_n 0, 1) := by decide +kernel
theorem dX10_starts_86 : decode cX10_starts 86 = .ok (.getfield 75, 3) := by decide +kernel
theorem dX10_starts_89 : decode cX10_starts 89 = .ok (.bipush 10, 2) := by decide +kernel
theorem dX10_starts_91 : decode cX10_starts 91 = .ok (.iload_n 1, 1) := by decide +kernel
theorem dX10_starts_92 : decode cX10_starts 92 = .ok (.imul, 1) := by decide +kernel
theorem dX10_starts_93 : decode cX10_starts 93 = .ok (.iload_n 2, 1) := by decide +kernel
theorem dX10_starts_94 : decode cX10_starts 94 = .ok (.iadd, 1) := by decide +kernel
theorem dX10_starts_95 : decode cX10_starts 95 = .ok (.iload_n 3, 1) := by decide +kernel
theorem dX10_starts_96 : decode cX10_starts 96 = .ok (.ifCond .eq 12, 3) := by decide +kernel
theorem dX10_starts_99 : decode cX10_starts 99 = .ok (.aload_n 0, 1) := by decide +kernel
theorem dX10_starts_100 : decode cX10_starts 100 = .ok (.getfield 28, 3) := by decide +kernel
theorem dX10_starts_103 : decode cX10_starts 103 = .ok (.iload_n 2, 1) := by decide +kernel
theorem dX10_starts_104 : decode cX10_starts 104 = .ok (.iaload, 1) := by decide +kernel
theorem dX10_starts_105 : decode cX10_starts 105 = .ok (.goto 4, 3) := by decide +kernel
theorem dX10_starts_108 : decode cX10_starts 108 = .ok (.iconst 0, 1) := by decide +kernel
theorem dX10_starts_109 : decode cX10_starts 109 = .ok (.iastore, 1) := by decide +kernel
theorem dX10_starts_110 : decode cX10_starts 110 = .ok (.aload_n 0, 1) := by decide +kernel
theorem dX10_starts_111 : decode cX10_starts 111 = .ok (.getfield 78, 3) := by decide +kernel
theorem dX10_starts_114 : decode cX10_starts 114 = .ok (.bipush 10, 2) := by decide +kernel
theorem dX10_starts_116 : decode cX10_starts 116 = .ok (.iload_n 1, 1) := by decide +kernel
theorem dX10_starts_117 : decode cX10_starts 117 = .ok (.imul, 1) := by decide +kernel
theorem dX10_starts_118 : decode cX10_starts 118 = .ok (.iload_n 2, 1) := by decide +kernel
theorem dX10_starts_119 : decode cX10_starts 119 = .ok (.iadd, 1) := by decide +kernel
theorem dX10_starts_120 : decode cX10_starts 120 = .ok (.iconst 0, 1) := by decide +kernel
theorem dX10_starts_121 : decode cX10_starts 121 = .ok (.iastore, 1) := by decide +kernel
theorem dX10_starts_122 : decode cX10_starts 122 = .ok (.aload_n 0, 1) := by decide +kernel
theorem dX10_starts_123 : decode cX10_starts 123 = .ok (.getfield 81, 3) := by decide +kernel
theorem dX10_starts_126 : decode cX10_starts 126 = .ok (.bipush 10, 2) := by decide +kernel
theorem dX10_starts_128 : decode cX10_starts 128 = .ok (.iload_n 1, 1) := by decide +kernel
theorem dX10_starts_129 : decode cX10_starts 129 = .ok (.imul, 1) := by decide +kernel
theorem dX10_starts_130 : decode cX10_starts 130 = .ok (.iload_n 2, 1) := by decide +kernel
theorem dX10_starts_131 : decode cX10_starts 131 = .ok (.iadd, 1) := by decide +kernel
theorem dX10_starts_132 : decode cX10_starts 132 = .ok (.iconst 0, 1) := by decide +kernel
theorem dX10_starts_133 : decode cX10_starts 133 = .ok (.iastore, 1) := by decide +kernel
theorem dX10_starts_134 : decode cX10_starts 134 = .ok (.aload_n 0, 1) := by decide +kernel
theorem dX10_starts_135 : decode cX10_starts 135 = .ok (.getfield 84, 3) := by decide +kernel
theorem dX10_starts_138 : decode cX10_starts 138 = .ok (.bipush 10, 2) := by decide +kernel
theorem dX10_starts_140 : decode cX10_starts 140 = .ok (.iload_n 1, 1) := by decide +kernel
theorem dX10_starts_141 : decode cX10_starts 141 = .ok (.imul, 1) := by decide +kernel
theorem dX10_starts_142 : decode cX10_starts 142 = .ok (.iload_n 2, 1) := by decide +kernel
theorem dX10_starts_143 : decode cX10_starts 143 = .ok (.iadd, 1) := by decide +kernel
theorem dX10_starts_144 : decode cX10_starts 144 = .ok (.iload_n 3, 1) := by decide +kernel
theorem dX10_starts_145 : decode cX10_starts 145 = .ok (.ifCond .eq 7, 3) := by decide +kernel
theorem dX10_starts_148 : decode cX10_starts 148 = .ok (.iconst 1, 1) := by decide +kernel
theorem dX10_starts_149 : decode cX10_starts 149 = .ok (.goto 4, 3) := by decide +kernel
theorem dX10_starts_152 : decode cX10_starts 152 = .ok (.iconst 0, 1) := by decide +kernel
theorem dX10_starts_153 : decode cX10_starts 153 = .ok (.iastore, 1) := by decide +kernel
theorem dX10_starts_154 : decode cX10_starts 154 = .ok (.iinc 2 1, 3) := by decide +kernel
theorem dX10_starts_157 : decode cX10_starts 157 = .ok (.goto (-94), 3) := by decide +kernel
theorem dX10_starts_160 : decode cX10_starts 160 = .ok (.return_, 1) := by decide +kernel
theorem dX10_begins_0 : decode cX10_begins 0 = .ok (.aload_n 0, 1) := by decide +kernel
theorem dX10_begins_1 : decode cX10_begins 1 = .ok (.iconst 0, 1) := by decide +kernel
theorem dX10_begins_2 : decode cX10_begins 2 = .ok (.invokevirtual 307, 3) := by decide +kernel
theorem dX10_begins_5 : decode cX10_begins 5 = .ok (.return_, 1) := by decide +kernel
theorem dX10_copies_0 : decode cX10_copies 0 = .ok (.aload_n 0, 1) := by decide +kernel
theorem dX10_copies_1 : decode cX10_copies 1 = .ok (.getfield 60, 3) := by decide +kernel
theorem dX10_copies_4 : decode cX10_copies 4 = .ok (.iload_n 1, 1) := by decide +kernel
theorem dX10_copies_5 : decode cX10_copies 5 = .ok (.aload_n 0, 1) := by decide +kernel
theorem dX10_copies_6 : decode cX10_copies 6 = .ok (.getfield 60, 3) := by decide +kernel
theorem dX10_copies_9 : decode cX10_copies 9 = .ok (.iload_n 2, 1) := by decide +kernel
theorem dX10_copies_10 : decode cX10_copies 10 = .ok (.iaload, 1) := by decide +kernel
theorem dX10_copies_11 : decode cX10_copies 11 = .ok (.iastore, 1) := by decide +kernel
theorem dX10_copies_12 : decode cX10_copies 12 = .ok (.aload_n 0, 1) := by decide +kernel
theorem dX10_copies_13 : decode cX10_copies 13 = .ok (.getfield 63, 3) := by decide +kernel
theorem dX10_copies_16 : decode cX10_copies 16 = .ok (.iload_n 1, 1) := by decide +kernel
theorem dX10_copies_17 : decode cX10_copies 17 = .ok (.aload_n 0, 1) := by decide +kernel
theorem dX10_copies_18 : decode cX10_copies 18 = .ok (.getfield 63, 3) := by decide +kernel
theorem dX10_copies_21 : decode cX10_copies 21 = .ok (.iload_n 2, 1) := by decide +kernel
theorem dX10_copies_22 : decode cX10_copies 22 = .ok (.iaload, 1) := by decide +kernel
theorem dX10_copies_23 : decode cX10_copies 23 = .ok (.iastore, 1) := by decide +kernel
theorem dX10_copies_24 : decode cX10_copies 24 = .ok (.aload_n 0, 1) := by decide +kernel
theorem dX10_copies_25 : decode cX10_copies 25 = .ok (.getfield 66, 3) := by decide +kernel
theorem dX10_copies_28 : decode cX10_copies 28 = .ok (.iload_n 1, 1) := by decide +kernel
theorem dX10_copies_29 : decode cX10_copies 29 = .ok (.aload_n 0, 1) := by decide +kernel
theorem dX10_copies_30 : decode cX10_copies 30 = .ok (.getfield 66, 3) := by decide +kernel
theorem dX10_copies_33 : decode cX10_copies 33 = .ok (.iload_n 2, 1) := by decide +kernel
theorem dX10_copies_34 : decode cX10_copies 34 = .ok (.iaload, 1) := by decide +kernel
theorem dX10_copies_35 : decode cX10_copies 35 = .ok (.iastore, 1) := by decide +kernel
theorem dX10_copies_36 : decode cX10_copies 36 = .ok (.iconst 0, 1) := by decide +kernel
theorem dX10_copies_37 : decode cX10_copies 37 = .ok (.istore_n 3, 1) := by decide +kernel
theorem dX10_copies_38 : decode cX10_copies 38 = .ok (.iload_n 3, 1) := by decide +kernel
theorem dX10_copies_39 : decode cX10_copies 39 = .ok (.iconst 2, 1) := by decide +kernel
theorem dX10_copies_40 : decode cX10_copies 40 = .ok (.if_icmp .ge 49, 3) := by decide +kernel
theorem dX10_copies_43 : decode cX10_copies 43 = .ok (.aload_n 0, 1) := by decide +kernel
theorem dX10_copies_44 : decode cX10_copies 44 = .ok (.getfield 69, 3) := by decide +kernel
theorem dX10_copies_47 : decode cX10_copies 47 = .ok (.iconst 2, 1) := by decide +kernel
theorem dX10_copies_48 : decode cX10_copies 48 = .ok (.iload_n 1, 1) := by decide +kernel
theorem dX10_copies_49 : decode cX10_copies 49 = .ok (.imul, 1) := by decide +kernel
theorem dX10_copies_50 : decode cX10_copies 50 = .ok (.iload_n 3, 1) := by decide +kernel
theorem dX10_copies_51 : decode cX10_copies 51 = .ok (.iadd, 1) := by decide +kernel
theorem dX10_copies_52 : decode cX10_copies 52 = .ok (.aload_n 0, 1) := by decide +kernel
theorem dX10_copies_53 : decode cX10_copies 53 = .ok (.getfield 69, 3) := by decide +kernel
theorem dX10_copies_56 : decode cX10_copies 56 = .ok (.iconst 2, 1) := by decide +kernel
theorem dX10_copies_57 : decode cX10_copies 57 = .ok (.iload_n 2, 1) := by decide +kernel
theorem dX10_copies_58 : decode cX10_copies 58 = .ok (.imul, 1) := by decide +kernel
theorem dX10_copies_59 : decode cX10_copies 59 = .ok (.iload_n 3, 1) := by decide +kernel
theorem dX10_copies_60 : decode cX10_copies 60 = .ok (.iadd, 1) := by decide +kernel
theorem dX10_copies_61 : decode cX10_copies 61 = .ok (.iaload, 1) := by decide +kernel
theorem dX10_copies_62 : decode cX10_copies 62 = .ok (.iastore, 1) := by decide +kernel
theorem dX10_copies_63 : decode cX10_copies 63 = .ok (.aload_n 0, 1) := by decide +kernel
theorem dX10_copies_64 : decode cX10_copies 64 = .ok (.getfield 72, 3) := by decide +kernel
theorem dX10_copies_67 : decode cX10_copies 67 = .ok (.iconst 2, 1) := by decide +kernel
theorem dX10_copies_68 : decode cX10_copies 68 = .ok (.iload_n 1, 1) := by decide +kernel
theorem dX10_copies_69 : decode cX10_copies 69 = .ok (.imul, 1) := by decide +kernel
theorem dX10_copies_70 : decode cX10_copies 70 = .ok (.iload_n 3, 1) := by decide +kernel
theorem dX10_copies_71 : decode cX10_copies 71 = .ok (.iadd, 1) := by decide +kernel
theorem dX10_copies_72 : decode cX10_copies 72 = .ok (.aload_n 0, 1) := by decide +kernel
theorem dX10_copies_73 : decode cX10_copies 73 = .ok (.getfield 72, 3) := by decide +kernel
theorem dX10_copies_76 : decode cX10_copies 76 = .ok (.iconst 2, 1) := by decide +kernel
theorem dX10_copies_77 : decode cX10_copies 77 = .ok (.iload_n 2, 1) := by decide +kernel
theorem dX10_copies_78 : decode cX10_copies 78 = .ok (.imul, 1) := by decide +kernel
theorem dX10_copies_79 : decode cX10_copies 79 = .ok (.iload_n 3, 1) := by decide +kernel
theorem dX10_copies_80 : decode cX10_copies 80 = .ok (.iadd, 1) := by decide +kernel
theorem dX10_copies_81 : decode cX10_copies 81 = .ok (.iaload, 1) := by decide +kernel
theorem dX10_copies_82 : decode cX10_copies 82 = .ok (.iastore, 1) := by decide +kernel
theorem dX10_copies_83 : decode cX10_copies 83 = .ok (.iinc 3 1, 3) := by decide +kernel
theorem dX10_copies_86 : decode cX10_copies 86 = .ok (.goto (-48), 3) := by decide +kernel
theorem dX10_copies_89 : decode cX10_copies 89 = .ok (.iconst 0, 1) := by decide +kernel
theorem dX10_copies_90 : decode cX10_copies 90 = .ok (.istore_n 3, 1) := by decide +kernel
theorem dX10_copies_91 : decode cX10_copies 91 = .ok (.iload_n 3, 1) := by decide +kernel
theorem dX10_copies_92 : decode cX10_copies 92 = .ok (.bipush 10, 2) := by decide +kernel
theorem dX10_copies_94 : decode cX10_copies 94 = .ok (.if_icmp .ge 97, 3) := by decide +kernel
theorem dX10_copies_97 : decode cX10_copies 97 = .ok (.aload_n 0, 1) := by decide +kernel
theorem dX10_copies_98 : decode cX10_copies 98 = .ok (.getfield 75, 3) := by decide +kernel
theorem dX10_copies_101 : decode cX10_copies 101 = .ok (.bipush 10, 2) := by decide +kernel
theorem dX10_copies_103 : decode cX10_copies 103 = .ok (.iload_n 1, 1) := by decide +kernel
theorem dX10_copies_104 : decode cX10_copies 104 = .ok (.imul, 1) := by decide +kernel
theorem dX10_copies_105 : decode cX10_copies 105 = .ok (.iload_n 3, 1) := by decide +kernel
theorem dX10_copies_106 : decode cX10_copies 106 = .ok (.iadd, 1) := by decide +kernel
theorem dX10_copies_107 : decode cX10_copies 107 = .ok (.aload_n 0, 1) := by decide +kernel
theorem dX10_copies_108 : decode cX10_copies 108 = .ok (.getfield 75, 3) := by decide +kernel
theorem dX10_copies_111 : decode cX10_copies 111 = .ok (.bipush 10, 2) := by decide +kernel
theorem dX10_copies_113 : decode cX10_copies 113 = .ok (.iload_n 2, 1) := by decide +kernel
theorem dX10_copies_114 : decode cX10_copies 114 = .ok (.imul, 1) := by decide +kernel
theorem dX10_copies_115 : decode cX10_copies 115 = .ok (.iload_n 3, 1) := by decide +kernel
theorem dX10_copies_116 : decode cX10_copies 116 = .ok (.iadd, 1) := by decide +kernel
theorem dX10_copies_117 : decode cX10_copies 117 = .ok (.iaload, 1) := by decide +kernel
theorem dX10_copies_118 : decode cX10_copies 118 = .ok (.iastore, 1) := by decide +kernel
theorem dX10_copies_119 : decode cX10_copies 119 = .ok (.aload_n 0, 1) := by decide +kernel
theorem dX10_copies_120 : decode cX10_copies 120 = .ok (.getfield 78, 3) := by decide +kernel
theorem dX10_copies_123 : decode cX10_copies 123 = .ok (.bipush 10, 2) := by decide +kernel
theorem dX10_copies_125 : decode cX10_copies 125 = .ok (.iload_n 1, 1) := by decide +kernel
theorem dX10_copies_126 : decode cX10_copies 126 = .ok (.imul, 1) := by decide +kernel
theorem dX10_copies_127 : decode cX10_copies 127 = .ok (.iload_n 3, 1) := by decide +kernel
theorem dX10_copies_128 : decode cX10_copies 128 = .ok (.iadd, 1) := by decide +kernel
theorem dX10_copies_129 : decode cX10_copies 129 = .ok (.aload_n 0, 1) := by decide +kernel
theorem dX10_copies_130 : decode cX10_copies 130 = .ok (.getfield 78, 3) := by decide +kernel
theorem dX10_copies_133 : decode cX10_copies 133 = .ok (.bipush 10, 2) := by decide +kernel
theorem dX10_copies_135 : decode cX10_copies 135 = .ok (.iload_n 2, 1) := by decide +kernel
theorem dX10_copies_136 : decode cX10_copies 136 = .ok (.imul, 1) := by decide +kernel
theorem dX10_copies_137 : decode cX10_copies 137 = .ok (.iload_n 3, 1) := by decide +kernel
theorem dX10_copies_138 : decode cX10_copies 138 = .ok (.iadd, 1) := by decide +kernel
theorem dX10_copies_139 : decode cX10_copies 139 = .ok (.iaload, 1) := by decide +kernel
theorem dX10_copies_140 : decode cX10_copies 140 = .ok (.iastore, 1) := by decide +kernel
theorem dX10_copies_141 : decode cX10_copies 141 = .ok (.aload_n 0, 1) := by decide +kernel
theorem dX10_copies_142 : decode cX10_copies 142 = .ok (.getfield 81, 3) := by decide +kernel
theorem dX10_copies_145 : decode cX10_copies 145 = .ok (.bipush 10, 2) := by decide +kernel
theorem dX10_copies_147 : decode cX10_copies 147 = .ok (.iload_n 1, 1) := by decide +kernel
theorem dX10_copies_148 : decode cX10_copies 148 = .ok (.imul, 1) := by decide +kernel
theorem dX10_copies_149 : decode cX10_copies 149 = .ok (.iload_n 3, 1) := by decide +kernel
theorem dX10_copies_150 : decode cX10_copies 150 = .ok (.iadd, 1) := by decide +kernel
theorem dX10_copies_151 : decode cX10_copies 151 = .ok (.aload_n 0, 1) := by decide +kernel
theorem dX10_copies_152 : decode cX10_copies 152 = .ok (.getfield 81, 3) := by decide +kernel
theorem dX10_copies_155 : decode cX10_copies 155 = .ok (.bipush 10, 2) := by decide +kernel
theorem dX10_copies_157 : decode cX10_copies 157 = .ok (.iload_n 2, 1) := by decide +kernel
theorem dX10_copies_158 : decode cX10_copies 158 = .ok (.imul, 1) := by decide +kernel
theorem dX10_copies_159 : decode cX10_copies 159 = .ok (.iload_n 3, 1) := by decide +kernel
theorem dX10_copies_160 : decode cX10_copies 160 = .ok (.iadd, 1) := by decide +kernel
theorem dX10_copies_161 : decode cX10_copies 161 = .ok (.iaload, 1) := by decide +kernel
theorem dX10_copies_162 : decode cX10_copies 162 = .ok (.iastore, 1) := by decide +kernel
theorem dX10_copies_163 : decode cX10_copies 163 = .ok (.aload_n 0, 1) := by decide +kernel
theorem dX10_copies_164 : decode cX10_copies 164 = .ok (.getfield 84, 3) := by decide +kernel
theorem dX10_copies_167 : decode cX10_copies 167 = .ok (.bipush 10, 2) := by decide +kernel
theorem dX10_copies_169 : decode cX10_copies 169 = .ok (.iload_n 1, 1) := by decide +kernel
theorem dX10_copies_170 : decode cX10_copies 170 = .ok (.imul, 1) := by decide +kernel
theorem dX10_copies_171 : decode cX10_copies 171 = .ok (.iload_n 3, 1) := by decide +kernel
theorem dX10_copies_172 : decode cX10_copies 172 = .ok (.iadd, 1) := by decide +kernel
theorem dX10_copies_173 : decode cX10_copies 173 = .ok (.aload_n 0, 1) := by decide +kernel
theorem dX10_copies_174 : decode cX10_copies 174 = .ok (.getfield 84, 3) := by decide +kernel
theorem dX10_copies_177 : decode cX10_copies 177 = .ok (.bipush 10, 2) := by decide +kernel
theorem dX10_copies_179 : decode cX10_copies 179 = .ok (.iload_n 2, 1) := by decide +kernel
theorem dX10_copies_180 : decode cX10_copies 180 = .ok (.imul, 1) := by decide +kernel
theorem dX10_copies_181 : decode cX10_copies 181 = .ok (.iload_n 3, 1) := by decide +kernel
theorem dX10_copies_182 : decode cX10_copies 182 = .ok (.iadd, 1) := by decide +kernel
theorem dX10_copies_183 : decode cX10_copies 183 = .ok (.iaload, 1) := by decide +kernel
theorem dX10_copies_184 : decode cX10_copies 184 = .ok (.iastore, 1) := by decide +kernel
theorem dX10_copies_185 : decode cX10_copies 185 = .ok (.iinc 3 1, 3) := by decide +kernel
theorem dX10_copies_188 : decode cX10_copies 188 = .ok (.goto (-97), 3) := by decide +kernel
theorem dX10_copies_191 : decode cX10_copies 191 = .ok (.return_, 1) := by decide +kernel
theorem dX10_isNurse_0 : decode cX10_isNurse 0 = .ok (.iload_n 1, 1) := by decide +kernel
theorem dX10_isNurse_1 : decode cX10_isNurse 1 = .ok (.ifCond .lt 17, 3) := by decide +kernel
theorem dX10_isNurse_4 : decode cX10_isNurse 4 = .ok (.iload_n 1, 1) := by decide +kernel
theorem dX10_isNurse_5 : decode cX10_isNurse 5 = .ok (.aload_n 0, 1) := by decide +kernel
theorem dX10_isNurse_6 : decode cX10_isNurse 6 = .ok (.getfield 13, 3) := by decide +kernel
theorem dX10_isNurse_9 : decode cX10_isNurse 9 = .ok (.iconst 0, 1) := by decide +kernel
theorem dX10_isNurse_10 : decode cX10_isNurse 10 = .ok (.iaload, 1) := by decide +kernel
theorem dX10_isNurse_11 : decode cX10_isNurse 11 = .ok (.if_icmp .ge 7, 3) := by decide +kernel
theorem dX10_isNurse_14 : decode cX10_isNurse 14 = .ok (.iconst 1, 1) := by decide +kernel
theorem dX10_isNurse_15 : decode cX10_isNurse 15 = .ok (.goto 4, 3) := by decide +kernel
theorem dX10_isNurse_18 : decode cX10_isNurse 18 = .ok (.iconst 0, 1) := by decide +kernel
theorem dX10_isNurse_19 : decode cX10_isNurse 19 = .ok (.ireturn, 1) := by decide +kernel
theorem dX10_isDoll_0 : decode cX10_isDoll 0 = .ok (.iload_n 1, 1) := by decide +kernel
theorem dX10_isDoll_1 : decode cX10_isDoll 1 = .ok (.ifCond .lt 17, 3) := by decide +kernel
theorem dX10_isDoll_4 : decode cX10_isDoll 4 = .ok (.iload_n 1, 1) := by decide +kernel
theorem dX10_isDoll_5 : decode cX10_isDoll 5 = .ok (.aload_n 0, 1) := by decide +kernel
theorem dX10_isDoll_6 : decode cX10_isDoll 6 = .ok (.getfield 13, 3) := by decide +kernel
theorem dX10_isDoll_9 : decode cX10_isDoll 9 = .ok (.iconst 1, 1) := by decide +kernel
theorem dX10_isDoll_10 : decode cX10_isDoll 10 = .ok (.iaload, 1) := by decide +kernel
theorem dX10_isDoll_11 : decode cX10_isDoll 11 = .ok (.if_icmp .ge 7, 3) := by decide +kernel
theorem dX10_isDoll_14 : decode cX10_isDoll 14 = .ok (.iconst 1, 1) := by decide +kernel
theorem dX10_isDoll_15 : decode cX10_isDoll 15 = .ok (.goto 4, 3) := by decide +kernel
theorem dX10_isDoll_18 : decode cX10_isDoll 18 = .ok (.iconst 0, 1) := by decide +kernel
theorem dX10_isDoll_19 : decode cX10_isDoll 19 = .ok (.ireturn, 1) := by decide +kernel
theorem dX10_isCity_0 : decode cX10_isCity 0 = .ok (.iload_n 0, 1) := by decide +kernel
theorem dX10_isCity_1 : decode cX10_isCity 1 = .ok (.ifCond .eq 8, 3) := by decide +kernel
theorem dX10_isCity_4 : decode cX10_isCity 4 = .ok (.iload_n 0, 1) := by decide +kernel
theorem dX10_isCity_5 : decode cX10_isCity 5 = .ok (.iconst 1, 1) := by decide +kernel
theorem dX10_isCity_6 : decode cX10_isCity 6 = .ok (.if_icmp .ne 7, 3) := by decide +kernel
theorem dX10_isCity_9 : decode cX10_isCity 9 = .ok (.iconst 1, 1) := by decide +kernel
theorem dX10_isCity_10 : decode cX10_isCity 10 = .ok (.goto 4, 3) := by decide +kernel
theorem dX10_isCity_13 : decode cX10_isCity 13 = .ok (.iconst 0, 1) := by decide +kernel
theorem dX10_isCity_14 : decode cX10_isCity 14 = .ok (.ireturn, 1) := by decide +kernel
theorem dX10_isHeld_0 : decode cX10_isHeld 0 = .ok (.aload_n 0, 1) := by decide +kernel
theorem dX10_isHeld_1 : decode cX10_isHeld 1 = .ok (.getfield 84, 3) := by decide +kernel
theorem dX10_isHeld_4 : decode cX10_isHeld 4 = .ok (.bipush 10, 2) := by decide +kernel
theorem dX10_isHeld_6 : decode cX10_isHeld 6 = .ok (.iload_n 1, 1) := by decide +kernel
theorem dX10_isHeld_7 : decode cX10_isHeld 7 = .ok (.imul, 1) := by decide +kernel
theorem dX10_isHeld_8 : decode cX10_isHeld 8 = .ok (.iload_n 2, 1) := by decide +kernel
theorem dX10_isHeld_9 : decode cX10_isHeld 9 = .ok (.iadd, 1) := by decide +kernel
theorem dX10_isHeld_10 : decode cX10_isHeld 10 = .ok (.iaload, 1) := by decide +kernel
theorem dX10_isHeld_11 : decode cX10_isHeld 11 = .ok (.iconst 1, 1) := by decide +kernel
theorem dX10_isHeld_12 : decode cX10_isHeld 12 = .ok (.if_icmp .ne 7, 3) := by decide +kernel
theorem dX10_isHeld_15 : decode cX10_isHeld 15 = .ok (.iconst 1, 1) := by decide +kernel
theorem dX10_isHeld_16 : decode cX10_isHeld 16 = .ok (.goto 4, 3) := by decide +kernel
theorem dX10_isHeld_19 : decode cX10_isHeld 19 = .ok (.iconst 0, 1) := by decide +kernel
theorem dX10_isHeld_20 : decode cX10_isHeld 20 = .ok (.ireturn, 1) := by decide +kernel
theorem dX10_ownerOf_0 : decode cX10_ownerOf 0 = .ok (.iconst 1, 1) := by decide +kernel
theorem dX10_ownerOf_1 : decode cX10_ownerOf 1 = .ok (.aload_n 0, 1) := by decide +kernel
theorem dX10_ownerOf_2 : decode cX10_ownerOf 2 = .ok (.getfield 19, 3) := by decide +kernel
theorem dX10_ownerOf_5 : decode cX10_ownerOf 5 = .ok (.aload_n 0, 1) := by decide +kernel
theorem dX10_ownerOf_6 : decode cX10_ownerOf 6 = .ok (.getfield 28, 3) := by decide +kernel
theorem dX10_ownerOf_9 : decode cX10_ownerOf 9 = .ok (.iload_n 1, 1) := by decide +kernel
theorem dX10_ownerOf_10 : decode cX10_ownerOf 10 = .ok (.iaload, 1) := by decide +kernel
theorem dX10_ownerOf_11 : decode cX10_ownerOf 11 = .ok (.iaload, 1) := by decide +kernel
theorem dX10_ownerOf_12 : decode cX10_ownerOf 12 = .ok (.isub, 1) := by decide +kernel
theorem dX10_ownerOf_13 : decode cX10_ownerOf 13 = .ok (.ireturn, 1) := by decide +kernel
theorem dX10_holds_0 : decode cX10_holds 0 = .ok (.aload_n 0, 1) := by decide +kernel
theorem dX10_holds_1 : decode cX10_holds 1 = .ok (.iload_n 1, 1) := by decide +kernel
theorem dX10_holds_2 : decode cX10_holds 2 = .ok (.iload_n 3, 1) := by decide +kernel
theorem dX10_holds_3 : decode cX10_holds 3 = .ok (.invokevirtual 310, 3) := by decide +kernel
theorem dX10_holds_6 : decode cX10_holds 6 = .ok (.ifCond .eq 16, 3) := by decide +kernel
theorem dX10_holds_9 : decode cX10_holds 9 = .ok (.aload_n 0, 1) := by decide +kernel
theorem dX10_holds_10 : decode cX10_holds 10 = .ok (.iload_n 3, 1) := by decide +kernel
theorem dX10_holds_11 : decode cX10_holds 11 = .ok (.invokevirtual 314, 3) := by decide +kernel
theorem dX10_holds_14 : decode cX10_holds 14 = .ok (.iload_n 2, 1) := by decide +kernel
theorem dX10_holds_15 : decode cX10_holds 15 = .ok (.if_icmp .eq 7, 3) := by decide +kernel
theorem dX10_holds_18 : decode cX10_holds 18 = .ok (.iconst 1, 1) := by decide +kernel
theorem dX10_holds_19 : decode cX10_holds 19 = .ok (.goto 4, 3) := by decide +kernel
theorem dX10_holds_22 : decode cX10_holds 22 = .ok (.iconst 0, 1) := by decide +kernel
theorem dX10_holds_23 : decode cX10_holds 23 = .ok (.ireturn, 1) := by decide +kernel
theorem dX10_careIn_0 : decode cX10_careIn 0 = .ok (.aload_n 0, 1) := by decide +kernel
theorem dX10_careIn_1 : decode cX10_careIn 1 = .ok (.getfield 317, 3) := by decide +kernel
theorem dX10_careIn_4 : decode cX10_careIn 4 = .ok (.iconst 4, 1) := by decide +kernel
theorem dX10_careIn_5 : decode cX10_careIn 5 = .ok (.if_icmp .ne 8, 3) := by decide +kernel
theorem dX10_careIn_8 : decode cX10_careIn 8 = .ok (.bipush 9, 2) := by decide +kernel
theorem dX10_careIn_10 : decode cX10_careIn 10 = .ok (.goto 24, 3) := by decide +kernel
theorem dX10_careIn_13 : decode cX10_careIn 13 = .ok (.iload_n 1, 1) := by decide +kernel
theorem dX10_careIn_14 : decode cX10_careIn 14 = .ok (.aload_n 0, 1) := by decide +kernel
theorem dX10_careIn_15 : decode cX10_careIn 15 = .ok (.getfield 87, 3) := by decide +kernel
theorem dX10_careIn_18 : decode cX10_careIn 18 = .ok (.if_icmp .ne 10, 3) := by decide +kernel
theorem dX10_careIn_21 : decode cX10_careIn 21 = .ok (.aload_n 0, 1) := by decide +kernel
theorem dX10_careIn_22 : decode cX10_careIn 22 = .ok (.getfield 320, 3) := by decide +kernel
theorem dX10_careIn_25 : decode cX10_careIn 25 = .ok (.goto 9, 3) := by decide +kernel
theorem dX10_careIn_28 : decode cX10_careIn 28 = .ok (.aload_n 0, 1) := by decide +kernel
theorem dX10_careIn_29 : decode cX10_careIn 29 = .ok (.getfield 22, 3) := by decide +kernel
theorem dX10_careIn_32 : decode cX10_careIn 32 = .ok (.iload_n 1, 1) := by decide +kernel
theorem dX10_careIn_33 : decode cX10_careIn 33 = .ok (.iaload, 1) := by decide +kernel
theorem dX10_careIn_34 : decode cX10_careIn 34 = .ok (.ireturn, 1) := by decide +kernel
theorem dX10_calls_0 : decode cX10_calls 0 = .ok (.aload_n 0, 1) := by decide +kernel
theorem dX10_calls_1 : decode cX10_calls 1 = .ok (.getfield 53, 3) := by decide +kernel
theorem dX10_calls_4 : decode cX10_calls 4 = .ok (.iconst 0, 1) := by decide +kernel
theorem dX10_calls_5 : decode cX10_calls 5 = .ok (.aload_n 0, 1) := by decide +kernel
theorem dX10_calls_6 : decode cX10_calls 6 = .ok (.getfield 31, 3) := by decide +kernel
theorem dX10_calls_9 : decode cX10_calls 9 = .ok (.iload_n 2, 1) := by decide +kernel
theorem dX10_calls_10 : decode cX10_calls 10 = .ok (.iaload, 1) := by decide +kernel
theorem dX10_calls_11 : decode cX10_calls 11 = .ok (.i2l, 1) := by decide +kernel
theorem dX10_calls_12 : decode cX10_calls 12 = .ok (.lastore, 1) := by decide +kernel
theorem dX10_calls_13 : decode cX10_calls 13 = .ok (.aload_n 0, 1) := by decide +kernel
theorem dX10_calls_14 : decode cX10_calls 14 = .ok (.getfield 53, 3) := by decide +kernel
theorem dX10_calls_17 : decode cX10_calls 17 = .ok (.iconst 1, 1) := by decide +kernel
theorem dX10_calls_18 : decode cX10_calls 18 = .ok (.aload_n 0, 1) := by decide +kernel
theorem dX10_calls_19 : decode cX10_calls 19 = .ok (.getfield 34, 3) := by decide +kernel
theorem dX10_calls_22 : decode cX10_calls 22 = .ok (.iload_n 2, 1) := by decide +kernel
theorem dX10_calls_23 : decode cX10_calls 23 = .ok (.iaload, 1) := by decide +kernel
theorem dX10_calls_24 : decode cX10_calls 24 = .ok (.i2l, 1) := by decide +kernel
theorem dX10_calls_25 : decode cX10_calls 25 = .ok (.lastore, 1) := by decide +kernel
theorem dX10_calls_26 : decode cX10_calls 26 = .ok (.aload_n 0, 1) := by decide +kernel
theorem dX10_calls_27 : decode cX10_calls 27 = .ok (.getfield 53, 3) := by decide +kernel
theorem dX10_calls_30 : decode cX10_calls 30 = .ok (.iconst 2, 1) := by decide +kernel
theorem dX10_calls_31 : decode cX10_calls 31 = .ok (.aload_n 0, 1) := by decide +kernel
theorem dX10_calls_32 : decode cX10_calls 32 = .ok (.getfield 78, 3) := by decide +kernel
theorem dX10_calls_35 : decode cX10_calls 35 = .ok (.bipush 10, 2) := by decide +kernel
theorem dX10_calls_37 : decode cX10_calls 37 = .ok (.iload_n 1, 1) := by decide +kernel
theorem dX10_calls_38 : decode cX10_calls 38 = .ok (.imul, 1) := by decide +kernel
theorem dX10_calls_39 : decode cX10_calls 39 = .ok (.iload_n 2, 1) := by decide +kernel
theorem dX10_calls_40 : decode cX10_calls 40 = .ok (.iadd, 1) := by decide +kernel
theorem dX10_calls_41 : decode cX10_calls 41 = .ok (.iaload, 1) := by decide +kernel
theorem dX10_calls_42 : decode cX10_calls 42 = .ok (.i2l, 1) := by decide +kernel
theorem dX10_calls_43 : decode cX10_calls 43 = .ok (.lastore, 1) := by decide +kernel
theorem dX10_calls_44 : decode cX10_calls 44 = .ok (.aload_n 0, 1) := by decide +kernel
theorem dX10_calls_45 : decode cX10_calls 45 = .ok (.getfield 53, 3) := by decide +kernel
theorem dX10_calls_48 : decode cX10_calls 48 = .ok (.iconst 3, 1) := by decide +kernel
theorem dX10_calls_49 : decode cX10_calls 49 = .ok (.aload_n 0, 1) := by decide +kernel
theorem dX10_calls_50 : decode cX10_calls 50 = .ok (.iload_n 3, 1) := by decide +kernel
theorem dX10_calls_51 : decode cX10_calls 51 = .ok (.invokevirtual 323, 3) := by decide +kernel
theorem dX10_calls_54 : decode cX10_calls 54 = .ok (.i2l, 1) := by decide +kernel
theorem dX10_calls_55 : decode cX10_calls 55 = .ok (.lastore, 1) := by decide +kernel
theorem dX10_calls_56 : decode cX10_calls 56 = .ok (.aload_n 0, 1) := by decide +kernel
theorem dX10_calls_57 : decode cX10_calls 57 = .ok (.getfield 53, 3) := by decide +kernel
theorem dX10_calls_60 : decode cX10_calls 60 = .ok (.iconst 4, 1) := by decide +kernel
theorem dX10_calls_61 : decode cX10_calls 61 = .ok (.aload_n 0, 1) := by decide +kernel
theorem dX10_calls_62 : decode cX10_calls 62 = .ok (.getfield 69, 3) := by decide +kernel
theorem dX10_calls_65 : decode cX10_calls 65 = .ok (.iconst 2, 1) := by decide +kernel
theorem dX10_calls_66 : decode cX10_calls 66 = .ok (.iload_n 1, 1) := by decide +kernel
theorem dX10_calls_67 : decode cX10_calls 67 = .ok (.imul, 1) := by decide +kernel
theorem dX10_calls_68 : decode cX10_calls 68 = .ok (.aload_n 0, 1) := by decide +kernel
theorem dX10_calls_69 : decode cX10_calls 69 = .ok (.iload_n 2, 1) := by decide +kernel
theorem dX10_calls_70 : decode cX10_calls 70 = .ok (.invokevirtual 314, 3) := by decide +kernel
theorem dX10_calls_73 : decode cX10_calls 73 = .ok (.iadd, 1) := by decide +kernel
theorem dX10_calls_74 : decode cX10_calls 74 = .ok (.iaload, 1) := by decide +kernel
theorem dX10_calls_75 : decode cX10_calls 75 = .ok (.i2l, 1) := by decide +kernel
theorem dX10_calls_76 : decode cX10_calls 76 = .ok (.lastore, 1) := by decide +kernel
theorem dX10_calls_77 : decode cX10_calls 77 = .ok (.aload_n 0, 1) := by decide +kernel
theorem dX10_calls_78 : decode cX10_calls 78 = .ok (.getfield 53, 3) := by decide +kernel
theorem dX10_calls_81 : decode cX10_calls 81 = .ok (.iconst 5, 1) := by decide +kernel
theorem dX10_calls_82 : decode cX10_calls 82 = .ok (.aload_n 0, 1) := by decide +kernel
theorem dX10_calls_83 : decode cX10_calls 83 = .ok (.getfield 81, 3) := by decide +kernel
theorem dX10_calls_86 : decode cX10_calls 86 = .ok (.bipush 10, 2) := by decide +kernel
theorem dX10_calls_88 : decode cX10_calls 88 = .ok (.iload_n 1, 1) := by decide +kernel
theorem dX10_calls_89 : decode cX10_calls 89 = .ok (.imul, 1) := by decide +kernel
theorem dX10_calls_90 : decode cX10_calls 90 = .ok (.iload_n 2, 1) := by decide +kernel
theorem dX10_calls_91 : decode cX10_calls 91 = .ok (.iadd, 1) := by decide +kernel
theorem dX10_calls_92 : decode cX10_calls 92 = .ok (.iaload, 1) := by decide +kernel
theorem dX10_calls_93 : decode cX10_calls 93 = .ok (.i2l, 1) := by decide +kernel
theorem dX10_calls_94 : decode cX10_calls 94 = .ok (.lastore, 1) := by decide +kernel
theorem dX10_calls_95 : decode cX10_calls 95 = .ok (.aload_n 0, 1) := by decide +kernel
theorem dX10_calls_96 : decode cX10_calls 96 = .ok (.getfield 53, 3) := by decide +kernel
theorem dX10_calls_99 : decode cX10_calls 99 = .ok (.bipush 6, 2) := by decide +kernel
theorem dX10_calls_101 : decode cX10_calls 101 = .ok (.aload_n 0, 1) := by decide +kernel
theorem dX10_calls_102 : decode cX10_calls 102 = .ok (.getfield 60, 3) := by decide +kernel
theorem dX10_calls_105 : decode cX10_calls 105 = .ok (.iload_n 1, 1) := by decide +kernel
theorem dX10_calls_106 : decode cX10_calls 106 = .ok (.iaload, 1) := by decide +kernel
theorem dX10_calls_107 : decode cX10_calls 107 = .ok (.i2l, 1) := by decide +kernel
theorem dX10_calls_108 : decode cX10_calls 108 = .ok (.lastore, 1) := by decide +kernel
theorem dX10_calls_109 : decode cX10_calls 109 = .ok (.return_, 1) := by decide +kernel
theorem dX10_callsCity_0 : decode cX10_callsCity 0 = .ok (.iconst 0, 1) := by decide +kernel
theorem dX10_callsCity_1 : decode cX10_callsCity 1 = .ok (.istore_n 3, 1) := by decide +kernel
theorem dX10_callsCity_2 : decode cX10_callsCity 2 = .ok (.iload_n 3, 1) := by decide +kernel
theorem dX10_callsCity_3 : decode cX10_callsCity 3 = .ok (.bipush 7, 2) := by decide +kernel
theorem dX10_callsCity_5 : decode cX10_callsCity 5 = .ok (.if_icmp .ge 16, 3) := by decide +kernel
theorem dX10_callsCity_8 : decode cX10_callsCity 8 = .ok (.aload_n 0, 1) := by decide +kernel
theorem dX10_callsCity_9 : decode cX10_callsCity 9 = .ok (.getfield 53, 3) := by decide +kernel
theorem dX10_callsCity_12 : decode cX10_callsCity 12 = .ok (.iload_n 3, 1) := by decide +kernel
theorem dX10_callsCity_13 : decode cX10_callsCity 13 = .ok (.lconst 0, 1) := by decide +kernel
theorem dX10_callsCity_14 : decode cX10_callsCity 14 = .ok (.lastore, 1) := by decide +kernel
theorem dX10_callsCity_15 : decode cX10_callsCity 15 = .ok (.iinc 3 1, 3) := by decide +kernel
theorem dX10_callsCity_18 : decode cX10_callsCity 18 = .ok (.goto (-16), 3) := by decide +kernel
theorem dX10_callsCity_21 : decode cX10_callsCity 21 = .ok (.aload_n 0, 1) := by decide +kernel
theorem dX10_callsCity_22 : decode cX10_callsCity 22 = .ok (.getfield 53, 3) := by decide +kernel
theorem dX10_callsCity_25 : decode cX10_callsCity 25 = .ok (.iconst 4, 1) := by decide +kernel
theorem dX10_callsCity_26 : decode cX10_callsCity 26 = .ok (.aload_n 0, 1) := by decide +kernel
theorem dX10_callsCity_27 : decode cX10_callsCity 27 = .ok (.getfield 69, 3) := by decide +kernel
theorem dX10_callsCity_30 : decode cX10_callsCity 30 = .ok (.iconst 2, 1) := by decide +kernel
theorem dX10_callsCity_31 : decode cX10_callsCity 31 = .ok (.iload_n 1, 1) := by decide +kernel
theorem dX10_callsCity_32 : decode cX10_callsCity 32 = .ok (.imul, 1) := by decide +kernel
theorem dX10_callsCity_33 : decode cX10_callsCity 33 = .ok (.iload_n 2, 1) := by decide +kernel
theorem dX10_callsCity_34 : decode cX10_callsCity 34 = .ok (.iadd, 1) := by decide +kernel
theorem dX10_callsCity_35 : decode cX10_callsCity 35 = .ok (.iaload, 1) := by decide +kernel
theorem dX10_callsCity_36 : decode cX10_callsCity 36 = .ok (.i2l, 1) := by decide +kernel
theorem dX10_callsCity_37 : decode cX10_callsCity 37 = .ok (.lastore, 1) := by decide +kernel
theorem dX10_callsCity_38 : decode cX10_callsCity 38 = .ok (.aload_n 0, 1) := by decide +kernel
theorem dX10_callsCity_39 : decode cX10_callsCity 39 = .ok (.getfield 53, 3) := by decide +kernel
theorem dX10_callsCity_42 : decode cX10_callsCity 42 = .ok (.bipush 6, 2) := by decide +kernel
theorem dX10_callsCity_44 : decode cX10_callsCity 44 = .ok (.aload_n 0, 1) := by decide +kernel
theorem dX10_callsCity_45 : decode cX10_callsCity 45 = .ok (.getfield 60, 3) := by decide +kernel
theorem dX10_callsCity_48 : decode cX10_callsCity 48 = .ok (.iload_n 1, 1) := by decide +kernel
theorem dX10_callsCity_49 : decode cX10_callsCity 49 = .ok (.iaload, 1) := by decide +kernel
theorem dX10_callsCity_50 : decode cX10_callsCity 50 = .ok (.i2l, 1) := by decide +kernel
theorem dX10_callsCity_51 : decode cX10_callsCity 51 = .ok (.lastore, 1) := by decide +kernel
theorem dX10_callsCity_52 : decode cX10_callsCity 52 = .ok (.return_, 1) := by decide +kernel
theorem dX10_within_0 : decode cX10_within 0 = .ok (.aload_n 0, 1) := by decide +kernel
theorem dX10_within_1 : decode cX10_within 1 = .ok (.iload_n 1, 1) := by decide +kernel
theorem dX10_within_2 : decode cX10_within 2 = .ok (.invokevirtual 326, 3) := by decide +kernel
theorem dX10_within_5 : decode cX10_within 5 = .ok (.ifCond .eq 11, 3) := by decide +kernel
theorem dX10_within_8 : decode cX10_within 8 = .ok (.aload_n 0, 1) := by decide +kernel
theorem dX10_within_9 : decode cX10_within 9 = .ok (.iload_n 1, 1) := by decide +kernel
theorem dX10_within_10 : decode cX10_within 10 = .ok (.invokevirtual 329, 3) := by decide +kernel
theorem dX10_within_13 : decode cX10_within 13 = .ok (.ifCond .ne 5, 3) := by decide +kernel
theorem dX10_within_16 : decode cX10_within 16 = .ok (.iload_n 3, 1) := by decide +kernel
theorem dX10_within_17 : decode cX10_within 17 = .ok (.ireturn, 1) := by decide +kernel
theorem dX10_within_18 : decode cX10_within 18 = .ok (.lconst 0, 1) := by decide +kernel
theorem dX10_within_19 : decode cX10_within 19 = .ok (.iload_n 2, 1) := by decide +kernel
theorem dX10_within_20 : decode cX10_within 20 = .ok (.i2l, 1) := by decide +kernel
theorem dX10_within_21 : decode cX10_within 21 = .ok (.aload_n 0, 1) := by decide +kernel
theorem dX10_within_22 : decode cX10_within 22 = .ok (.getfield 57, 3) := by decide +kernel
theorem dX10_within_25 : decode cX10_within 25 = .ok (.iconst 0, 1) := by decide +kernel
theorem dX10_within_26 : decode cX10_within 26 = .ok (.laload, 1) := by decide +kernel
theorem dX10_within_27 : decode cX10_within 27 = .ok (.invokestatic 332, 3) := by decide +kernel
theorem dX10_within_30 : decode cX10_within 30 = .ok (.invokestatic 336, 3) := by decide +kernel
theorem dX10_within_33 : decode cX10_within 33 = .ok (.l2i, 1) := by decide +kernel
theorem dX10_within_34 : decode cX10_within 34 = .ok (.ireturn, 1) := by decide +kernel
theorem dX10_mothsBy_0 : decode cX10_mothsBy 0 = .ok (.aload_n 0, 1) := by decide +kernel
theorem dX10_mothsBy_1 : decode cX10_mothsBy 1 = .ok (.iload_n 1, 1) := by decide +kernel
theorem dX10_mothsBy_2 : decode cX10_mothsBy 2 = .ok (.iload_n 2, 1) := by decide +kernel
theorem dX10_mothsBy_3 : decode cX10_mothsBy 3 = .ok (.iload_n 3, 1) := by decide +kernel
theorem dX10_mothsBy_4 : decode cX10_mothsBy 4 = .ok (.invokevirtual 339, 3) := by decide +kernel
theorem dX10_mothsBy_7 : decode cX10_mothsBy 7 = .ok (.aload_n 0, 1) := by decide +kernel
theorem dX10_mothsBy_8 : decode cX10_mothsBy 8 = .ok (.iconst 0, 1) := by decide +kernel
theorem dX10_mothsBy_9 : decode cX10_mothsBy 9 = .ok (.bipush 100, 2) := by decide +kernel
theorem dX10_mothsBy_11 : decode cX10_mothsBy 11 = .ok (.iconst 0, 1) := by decide +kernel
theorem dX10_mothsBy_12 : decode cX10_mothsBy 12 = .ok (.aload_n 0, 1) := by decide +kernel
theorem dX10_mothsBy_13 : decode cX10_mothsBy 13 = .ok (.getfield 13, 3) := by decide +kernel
theorem dX10_mothsBy_16 : decode cX10_mothsBy 16 = .ok (.iconst 2, 1) := by decide +kernel
theorem dX10_mothsBy_17 : decode cX10_mothsBy 17 = .ok (.iaload, 1) := by decide +kernel
theorem dX10_mothsBy_18 : decode cX10_mothsBy 18 = .ok (.bipush 10, 2) := by decide +kernel
theorem dX10_mothsBy_20 : decode cX10_mothsBy 20 = .ok (.aload_n 0, 1) := by decide +kernel
theorem dX10_mothsBy_21 : decode cX10_mothsBy 21 = .ok (.iload_n 3, 1) := by decide +kernel
theorem dX10_mothsBy_22 : decode cX10_mothsBy 22 = .ok (.invokevirtual 323, 3) := by decide +kernel
theorem dX10_mothsBy_25 : decode cX10_mothsBy 25 = .ok (.imul, 1) := by decide +kernel
theorem dX10_mothsBy_26 : decode cX10_mothsBy 26 = .ok (.isub, 1) := by decide +kernel
theorem dX10_mothsBy_27 : decode cX10_mothsBy 27 = .ok (.invokestatic 343, 3) := by decide +kernel
theorem dX10_mothsBy_30 : decode cX10_mothsBy 30 = .ok (.invokevirtual 345, 3) := by decide +kernel
theorem dX10_mothsBy_33 : decode cX10_mothsBy 33 = .ok (.ireturn, 1) := by decide +kernel
theorem dX10_draw_0 : decode cX10_draw 0 = .ok (.aload_n 0, 1) := by decide +kernel
theorem dX10_draw_1 : decode cX10_draw 1 = .ok (.getfield 63, 3) := by decide +kernel
theorem dX10_draw_4 : decode cX10_draw 4 = .ok (.iload_n 1, 1) := by decide +kernel
theorem dX10_draw_5 : decode cX10_draw 5 = .ok (.aload_n 0, 1) := by decide +kernel
theorem dX10_draw_6 : decode cX10_draw 6 = .ok (.getfield 63, 3) := by decide +kernel
theorem dX10_draw_9 : decode cX10_draw 9 = .ok (.iload_n 1, 1) := by decide +kernel
theorem dX10_draw_10 : decode cX10_draw 10 = .ok (.iaload, 1) := by decide +kernel
theorem dX10_draw_11 : decode cX10_draw 11 = .ok (.ldc_w 349, 3) := by decide +kernel
theorem dX10_draw_14 : decode cX10_draw 14 = .ok (.imul, 1) := by decide +kernel
theorem dX10_draw_15 : decode cX10_draw 15 = .ok (.sipush 12345, 3) := by decide +kernel
theorem dX10_draw_18 : decode cX10_draw 18 = .ok (.iadd, 1) := by decide +kernel
theorem dX10_draw_19 : decode cX10_draw 19 = .ok (.ldc_w 352, 3) := by decide +kernel
theorem dX10_draw_22 : decode cX10_draw 22 = .ok (.iand, 1) := by decide +kernel
theorem dX10_draw_23 : decode cX10_draw 23 = .ok (.iastore, 1) := by decide +kernel
theorem dX10_draw_24 : decode cX10_draw 24 = .ok (.aload_n 0, 1) := by decide +kernel
theorem dX10_draw_25 : decode cX10_draw 25 = .ok (.getfield 63, 3) := by decide +kernel
theorem dX10_draw_28 : decode cX10_draw 28 = .ok (.iload_n 1, 1) := by decide +kernel
theorem dX10_draw_29 : decode cX10_draw 29 = .ok (.iaload, 1) := by decide +kernel
theorem dX10_draw_30 : decode cX10_draw 30 = .ok (.bipush 16, 2) := by decide +kernel
theorem dX10_draw_32 : decode cX10_draw 32 = .ok (.ishr, 1) := by decide +kernel
theorem dX10_draw_33 : decode cX10_draw 33 = .ok (.iload_n 2, 1) := by decide +kernel
theorem dX10_draw_34 : decode cX10_draw 34 = .ok (.irem, 1) := by decide +kernel
theorem dX10_draw_35 : decode cX10_draw 35 = .ok (.ireturn, 1) := by decide +kernel
theorem dX10_comeMoths_0 : decode cX10_comeMoths 0 = .ok (.aload_n 0, 1) := by decide +kernel
theorem dX10_comeMoths_1 : decode cX10_comeMoths 1 = .ok (.getfield 317, 3) := by decide +kernel
theorem dX10_comeMoths_4 : decode cX10_comeMoths 4 = .ok (.iconst 1, 1) := by decide +kernel
theorem dX10_comeMoths_5 : decode cX10_comeMoths 5 = .ok (.if_icmp .ne 5, 3) := by decide +kernel
theorem dX10_comeMoths_8 : decode cX10_comeMoths 8 = .ok (.iconst 0, 1) := by decide +kernel
theorem dX10_comeMoths_9 : decode cX10_comeMoths 9 = .ok (.ireturn, 1) := by decide +kernel
theorem dX10_comeMoths_10 : decode cX10_comeMoths 10 = .ok (.aload_n 0, 1) := by decide +kernel
theorem dX10_comeMoths_11 : decode cX10_comeMoths 11 = .ok (.iload_n 1, 1) := by decide +kernel
theorem dX10_comeMoths_12 : decode cX10_comeMoths 12 = .ok (.iload_n 2, 1) := by decide +kernel
theorem dX10_comeMoths_13 : decode cX10_comeMoths 13 = .ok (.aload_n 0, 1) := by decide +kernel
theorem dX10_comeMoths_14 : decode cX10_comeMoths 14 = .ok (.getfield 75, 3) := by decide +kernel
theorem dX10_comeMoths_17 : decode cX10_comeMoths 17 = .ok (.bipush 10, 2) := by decide +kernel
theorem dX10_comeMoths_19 : decode cX10_comeMoths 19 = .ok (.iload_n 1, 1) := by decide +kernel
theorem dX10_comeMoths_20 : decode cX10_comeMoths 20 = .ok (.imul, 1) := by decide +kernel
theorem dX10_comeMoths_21 : decode cX10_comeMoths 21 = .ok (.iload_n 2, 1) := by decide +kernel
theorem dX10_comeMoths_22 : decode cX10_comeMoths 22 = .ok (.iadd, 1) := by decide +kernel
theorem dX10_comeMoths_23 : decode cX10_comeMoths 23 = .ok (.iaload, 1) := by decide +kernel
theorem dX10_comeMoths_24 : decode cX10_comeMoths 24 = .ok (.invokevirtual 353, 3) := by decide +kernel
theorem dX10_comeMoths_27 : decode cX10_comeMoths 27 = .ok (.istore 4, 2) := by decide +kernel
theorem dX10_comeMoths_29 : decode cX10_comeMoths 29 = .ok (.iload_n 3, 1) := by decide +kernel
theorem dX10_comeMoths_30 : decode cX10_comeMoths 30 = .ok (.ifCond .eq 35, 3) := by decide +kernel
theorem dX10_comeMoths_33 : decode cX10_comeMoths 33 = .ok (.iload 4, 2) := by decide +kernel
theorem dX10_comeMoths_35 : decode cX10_comeMoths 35 = .ok (.ifCond .le 30, 3) := by decide +kernel
theorem dX10_comeMoths_38 : decode cX10_comeMoths 38 = .ok (.iload 4, 2) := by decide +kernel
theorem dX10_comeMoths_40 : decode cX10_comeMoths 40 = .ok (.bipush 100, 2) := by decide +kernel
theorem dX10_comeMoths_42 : decode cX10_comeMoths 42 = .ok (.if_icmp .ge 23, 3) := by decide +kernel
theorem dX10_comeMoths_45 : decode cX10_comeMoths 45 = .ok (.aload_n 0, 1) := by decide +kernel
theorem dX10_comeMoths_46 : decode cX10_comeMoths 46 = .ok (.iload_n 1, 1) := by decide +kernel
theorem dX10_comeMoths_47 : decode cX10_comeMoths 47 = .ok (.bipush 100, 2) := by decide +kernel
theorem dX10_comeMoths_49 : decode cX10_comeMoths 49 = .ok (.invokevirtual 356, 3) := by decide +kernel
theorem dX10_comeMoths_52 : decode cX10_comeMoths 52 = .ok (.iload 4, 2) := by decide +kernel
theorem dX10_comeMoths_54 : decode cX10_comeMoths 54 = .ok (.if_icmp .ge 7, 3) := by decide +kernel
theorem dX10_comeMoths_57 : decode cX10_comeMoths 57 = .ok (.iconst 1, 1) := by decide +kernel
theorem dX10_comeMoths_58 : decode cX10_comeMoths 58 = .ok (.goto 19, 3) := by decide +kernel
theorem dX10_comeMoths_61 : decode cX10_comeMoths 61 = .ok (.iconst 0, 1) := by decide +kernel
theorem dX10_comeMoths_62 : decode cX10_comeMoths 62 = .ok (.goto 15, 3) := by decide +kernel
theorem dX10_comeMoths_65 : decode cX10_comeMoths 65 = .ok (.iload 4, 2) := by decide +kernel
theorem dX10_comeMoths_67 : decode cX10_comeMoths 67 = .ok (.bipush 50, 2) := by decide +kernel
theorem dX10_comeMoths_69 : decode cX10_comeMoths 69 = .ok (.if_icmp .lt 7, 3) := by decide +kernel
theorem dX10_comeMoths_72 : decode cX10_comeMoths 72 = .ok (.iconst 1, 1) := by decide +kernel
theorem dX10_comeMoths_73 : decode cX10_comeMoths 73 = .ok (.goto 4, 3) := by decide +kernel
theorem dX10_comeMoths_76 : decode cX10_comeMoths 76 = .ok (.iconst 0, 1) := by decide +kernel
theorem dX10_comeMoths_77 : decode cX10_comeMoths 77 = .ok (.ireturn, 1) := by decide +kernel
theorem dX10_hurts_0 : decode cX10_hurts 0 = .ok (.bipush 10, 2) := by decide +kernel
theorem dX10_hurts_2 : decode cX10_hurts 2 = .ok (.iload_n 1, 1) := by decide +kernel
theorem dX10_hurts_3 : decode cX10_hurts 3 = .ok (.imul, 1) := by decide +kernel
theorem dX10_hurts_4 : decode cX10_hurts 4 = .ok (.iload_n 2, 1) := by decide +kernel
theorem dX10_hurts_5 : decode cX10_hurts 5 = .ok (.iadd, 1) := by decide +kernel
theorem dX10_hurts_6 : decode cX10_hurts 6 = .ok (.istore_n 3, 1) := by decide +kernel
theorem dX10_hurts_7 : decode cX10_hurts 7 = .ok (.aload_n 0, 1) := by decide +kernel
theorem dX10_hurts_8 : decode cX10_hurts 8 = .ok (.getfield 78, 3) := by decide +kernel
theorem dX10_hurts_11 : decode cX10_hurts 11 = .ok (.iload_n 3, 1) := by decide +kernel
theorem dX10_hurts_12 : decode cX10_hurts 12 = .ok (.bipush 9, 2) := by decide +kernel
theorem dX10_hurts_14 : decode cX10_hurts 14 = .ok (.aload_n 0, 1) := by decide +kernel
theorem dX10_hurts_15 : decode cX10_hurts 15 = .ok (.getfield 78, 3) := by decide +kernel
theorem dX10_hurts_18 : decode cX10_hurts 18 = .ok (.iload_n 3, 1) := by decide +kernel
theorem dX10_hurts_19 : decode cX10_hurts 19 = .ok (.iaload, 1) := by decide +kernel
theorem dX10_hurts_20 : decode cX10_hurts 20 = .ok (.iconst 1, 1) := by decide +kernel
theorem dX10_hurts_21 : decode cX10_hurts 21 = .ok (.iadd, 1) := by decide +kernel
theorem dX10_hurts_22 : decode cX10_hurts 22 = .ok (.invokestatic 359, 3) := by decide +kernel
theorem dX10_hurts_25 : decode cX10_hurts 25 = .ok (.iastore, 1) := by decide +kernel
theorem dX10_hurts_26 : decode cX10_hurts 26 = .ok (.aload_n 0, 1) := by decide +kernel
theorem dX10_hurts_27 : decode cX10_hurts 27 = .ok (.dup, 1) := by decide +kernel
theorem dX10_hurts_28 : decode cX10_hurts 28 = .ok (.getfield 361, 3) := by decide +kernel
theorem dX10_hurts_31 : decode cX10_hurts 31 = .ok (.iconst 1, 1) := by decide +kernel
theorem dX10_hurts_32 : decode cX10_hurts 32 = .ok (.iload_n 2, 1) := by decide +kernel
theorem dX10_hurts_33 : decode cX10_hurts 33 = .ok (.ishl, 1) := by decide +kernel
theorem dX10_hurts_34 : decode cX10_hurts 34 = .ok (.ior, 1) := by decide +kernel
theorem dX10_hurts_35 : decode cX10_hurts 35 = .ok (.putfield 361, 3) := by decide +kernel
theorem dX10_hurts_38 : decode cX10_hurts 38 = .ok (.aload_n 0, 1) := by decide +kernel
theorem dX10_hurts_39 : decode cX10_hurts 39 = .ok (.iload_n 1, 1) := by decide +kernel
theorem dX10_hurts_40 : decode cX10_hurts 40 = .ok (.iload_n 2, 1) := by decide +kernel
theorem dX10_hurts_41 : decode cX10_hurts 41 = .ok (.aload_n 0, 1) := by decide +kernel
theorem dX10_hurts_42 : decode cX10_hurts 42 = .ok (.getfield 75, 3) := by decide +kernel
theorem dX10_hurts_45 : decode cX10_hurts 45 = .ok (.iload_n 3, 1) := by decide +kernel
theorem dX10_hurts_46 : decode cX10_hurts 46 = .ok (.iaload, 1) := by decide +kernel
theorem dX10_hurts_47 : decode cX10_hurts 47 = .ok (.invokevirtual 339, 3) := by decide +kernel
theorem dX10_hurts_50 : decode cX10_hurts 50 = .ok (.iconst 2, 1) := by decide +kernel
theorem dX10_hurts_51 : decode cX10_hurts 51 = .ok (.iload_n 1, 1) := by decide +kernel
theorem dX10_hurts_52 : decode cX10_hurts 52 = .ok (.imul, 1) := by decide +kernel
theorem dX10_hurts_53 : decode cX10_hurts 53 = .ok (.aload_n 0, 1) := by decide +kernel
theorem dX10_hurts_54 : decode cX10_hurts 54 = .ok (.iload_n 2, 1) := by decide +kernel
theorem dX10_hurts_55 : decode cX10_hurts 55 = .ok (.invokevirtual 314, 3) := by decide +kernel
theorem dX10_hurts_58 : decode cX10_hurts 58 = .ok (.iadd, 1) := by decide +kernel
theorem dX10_hurts_59 : decode cX10_hurts 59 = .ok (.istore 4, 2) := by decide +kernel
theorem dX10_hurts_61 : decode cX10_hurts 61 = .ok (.aload_n 0, 1) := by decide +kernel
theorem dX10_hurts_62 : decode cX10_hurts 62 = .ok (.getfield 69, 3) := by decide +kernel
theorem dX10_hurts_65 : decode cX10_hurts 65 = .ok (.iload 4, 2) := by decide +kernel
theorem dX10_hurts_67 : decode cX10_hurts 67 = .ok (.sipush 999, 3) := by decide +kernel
theorem dX10_hurts_70 : decode cX10_hurts 70 = .ok (.aload_n 0, 1) := by decide +kernel
theorem dX10_hurts_71 : decode cX10_hurts 71 = .ok (.getfield 69, 3) := by decide +kernel
theorem dX10_hurts_74 : decode cX10_hurts 74 = .ok (.iload 4, 2) := by decide +kernel
theorem dX10_hurts_76 : decode cX10_hurts 76 = .ok (.iaload, 1) := by decide +kernel
theorem dX10_hurts_77 : decode cX10_hurts 77 = .ok (.aload_n 0, 1) := by decide +kernel
theorem dX10_hurts_78 : decode cX10_hurts 78 = .ok (.iconst 1, 1) := by decide +kernel
theorem dX10_hurts_79 : decode cX10_hurts 79 = .ok (.bipush 99, 2) := by decide +kernel
theorem dX10_hurts_81 : decode cX10_hurts 81 = .ok (.aload_n 0, 1) := by decide +kernel
theorem dX10_hurts_82 : decode cX10_hurts 82 = .ok (.getfield 31, 3) := by decide +kernel
theorem dX10_hurts_85 : decode cX10_hurts 85 = .ok (.iload_n 2, 1) := by decide +kernel
theorem dX10_hurts_86 : decode cX10_hurts 86 = .ok (.iaload, 1) := by decide +kernel
theorem dX10_hurts_87 : decode cX10_hurts 87 = .ok (.invokevirtual 345, 3) := by decide +kernel
theorem dX10_hurts_90 : decode cX10_hurts 90 = .ok (.iadd, 1) := by decide +kernel
theorem dX10_hurts_91 : decode cX10_hurts 91 = .ok (.invokestatic 359, 3) := by decide +kernel
theorem dX10_hurts_94 : decode cX10_hurts 94 = .ok (.iastore, 1) := by decide +kernel
theorem dX10_hurts_95 : decode cX10_hurts 95 = .ok (.return_, 1) := by decide +kernel
theorem dX10_answerOf_0 : decode cX10_answerOf 0 = .ok (.iconst (-1), 1) := by decide +kernel
theorem dX10_answerOf_1 : decode cX10_answerOf 1 = .ok (.istore_n 3, 1) := by decide +kernel
theorem dX10_answerOf_2 : decode cX10_answerOf 2 = .ok (.iconst 0, 1) := by decide +kernel
theorem dX10_answerOf_3 : decode cX10_answerOf 3 = .ok (.istore 4, 2) := by decide +kernel
theorem dX10_answerOf_5 : decode cX10_answerOf 5 = .ok (.iload 4, 2) := by decide +kernel
theorem dX10_answerOf_7 : decode cX10_answerOf 7 = .ok (.aload_n 0, 1) := by decide +kernel
theorem dX10_answerOf_8 : decode cX10_answerOf 8 = .ok (.getfield 13, 3) := by decide +kernel
theorem dX10_answerOf_11 : decode cX10_answerOf 11 = .ok (.iconst 1, 1) := by decide +kernel
theorem dX10_answerOf_12 : decode cX10_answerOf 12 = .ok (.iaload, 1) := by decide +kernel
theorem dX10_answerOf_13 : decode cX10_answerOf 13 = .ok (.if_icmp .ge 44, 3) := by decide +kernel
theorem dX10_answerOf_16 : decode cX10_answerOf 16 = .ok (.aload_n 0, 1) := by decide +kernel
theorem dX10_answerOf_17 : decode cX10_answerOf 17 = .ok (.iload_n 1, 1) := by decide +kernel
theorem dX10_answerOf_18 : decode cX10_answerOf 18 = .ok (.iload_n 2, 1) := by decide +kernel
theorem dX10_answerOf_19 : decode cX10_answerOf 19 = .ok (.iload 4, 2) := by decide +kernel
theorem dX10_answerOf_21 : decode cX10_answerOf 21 = .ok (.invokevirtual 364, 3) := by decide +kernel
theorem dX10_answerOf_24 : decode cX10_answerOf 24 = .ok (.ifCond .eq 27, 3) := by decide +kernel
theorem dX10_answerOf_27 : decode cX10_answerOf 27 = .ok (.iload_n 3, 1) := by decide +kernel
theorem dX10_answerOf_28 : decode cX10_answerOf 28 = .ok (.iconst (-1), 1) := by decide +kernel
theorem dX10_answerOf_29 : decode cX10_answerOf 29 = .ok (.if_icmp .eq 19, 3) := by decide +kernel
theorem dX10_answerOf_32 : decode cX10_answerOf 32 = .ok (.aload_n 0, 1) := by decide +kernel
theorem dX10_answerOf_33 : decode cX10_answerOf 33 = .ok (.getfield 31, 3) := by decide +kernel
theorem dX10_answerOf_36 : decode cX10_answerOf 36 = .ok (.iload 4, 2) := by decide +kernel
theorem dX10_answerOf_38 : decode cX10_answerOf 38 = .ok (.iaload, 1) := by decide +kernel
theorem dX10_answerOf_39 : decode cX10_answerOf 39 = .ok (.aload_n 0, 1) := by decide +kernel
theorem dX10_answerOf_40 : decode cX10_answerOf 40 = .ok (.getfield 31, 3) := by decide +kernel
theorem dX10_answerOf_43 : decode cX10_answerOf 43 = .ok (.iload_n 3, 1) := by decide +kernel
theorem dX10_answerOf_44 : decode cX10_answerOf 44 = .ok (.iaload, 1) := by decide +kernel
theorem dX10_answerOf_45 : decode cX10_answerOf 45 = .ok (.if_icmp .le 6, 3) := by decide +kernel
theorem dX10_answerOf_48 : decode cX10_answerOf 48 = .ok (.iload 4, 2) := by decide +kernel
theorem dX10_answerOf_50 : decode cX10_answerOf 50 = .ok (.istore_n 3, 1) := by decide +kernel
theorem dX10_answerOf_51 : decode cX10_answerOf 51 = .ok (.iinc 4 1, 3) := by decide +kernel
theorem dX10_answerOf_54 : decode cX10_answerOf 54 = .ok (.goto (-49), 3) := by decide +kernel
theorem dX10_answerOf_57 : decode cX10_answerOf 57 = .ok (.iload_n 3, 1) := by decide +kernel
theorem dX10_answerOf_58 : decode cX10_answerOf 58 = .ok (.ireturn, 1) := by decide +kernel
theorem dX10_answers_0 : decode cX10_answers 0 = .ok (.aload_n 0, 1) := by decide +kernel
theorem dX10_answers_1 : decode cX10_answers 1 = .ok (.getfield 69, 3) := by decide +kernel
theorem dX10_answers_4 : decode cX10_answers 4 = .ok (.iconst 2, 1) := by decide +kernel
theorem dX10_answers_5 : decode cX10_answers 5 = .ok (.iload_n 1, 1) := by decide +kernel
theorem dX10_answers_6 : decode cX10_answers 6 = .ok (.imul, 1) := by decide +kernel
theorem dX10_answers_7 : decode cX10_answers 7 = .ok (.iload_n 2, 1) := by decide +kernel
theorem dX10_answers_8 : decode cX10_answers 8 = .ok (.iadd, 1) := by decide +kernel
theorem dX10_answers_9 : decode cX10_answers 9 = .ok (.iaload, 1) := by decide +kernel
theorem dX10_answers_10 : decode cX10_answers 10 = .ok (.aload_n 0, 1) := by decide +kernel
theorem dX10_answers_11 : decode cX10_answers 11 = .ok (.getfield 13, 3) := by decide +kernel
theorem dX10_answers_14 : decode cX10_answers 14 = .ok (.iconst 3, 1) := by decide +kernel
theorem dX10_answers_15 : decode cX10_answers 15 = .ok (.iaload, 1) := by decide +kernel
theorem dX10_answers_16 : decode cX10_answers 16 = .ok (.if_icmp .lt 11, 3) := by decide +kernel
theorem dX10_answers_19 : decode cX10_answers 19 = .ok (.aload_n 0, 1) := by decide +kernel
theorem dX10_answers_20 : decode cX10_answers 20 = .ok (.getfield 317, 3) := by decide +kernel
theorem dX10_answers_23 : decode cX10_answers 23 = .ok (.iconst 3, 1) := by decide +kernel
theorem dX10_answers_24 : decode cX10_answers 24 = .ok (.if_icmp .ne 4, 3) := by decide +kernel
theorem dX10_answers_27 : decode cX10_answers 27 = .ok (.return_, 1) := by decide +kernel
theorem dX10_answers_28 : decode cX10_answers 28 = .ok (.aload_n 0, 1) := by decide +kernel
theorem dX10_answers_29 : decode cX10_answers 29 = .ok (.iload_n 1, 1) := by decide +kernel
theorem dX10_answers_30 : decode cX10_answers 30 = .ok (.iload_n 2, 1) := by decide +kernel
theorem dX10_answers_31 : decode cX10_answers 31 = .ok (.invokevirtual 368, 3) := by decide +kernel
theorem dX10_answers_34 : decode cX10_answers 34 = .ok (.istore_n 3, 1) := by decide +kernel
theorem dX10_answers_35 : decode cX10_answers 35 = .ok (.iload_n 3, 1) := by decide +kernel
theorem dX10_answers_36 : decode cX10_answers 36 = .ok (.iconst (-1), 1) := by decide +kernel
theorem dX10_answers_37 : decode cX10_answers 37 = .ok (.if_icmp .ne 4, 3) := by decide +kernel
theorem dX10_answers_40 : decode cX10_answers 40 = .ok (.return_, 1) := by decide +kernel
theorem dX10_answers_41 : decode cX10_answers 41 = .ok (.aload_n 0, 1) := by decide +kernel
theorem dX10_answers_42 : decode cX10_answers 42 = .ok (.iload_n 1, 1) := by decide +kernel
theorem dX10_answers_43 : decode cX10_answers 43 = .ok (.iload_n 3, 1) := by decide +kernel
theorem dX10_answers_44 : decode cX10_answers 44 = .ok (.invokevirtual 371, 3) := by decide +kernel
theorem dX10_answers_47 : decode cX10_answers 47 = .ok (.aload_n 0, 1) := by decide +kernel
theorem dX10_answers_48 : decode cX10_answers 48 = .ok (.getfield 69, 3) := by decide +kernel
theorem dX10_answers_51 : decode cX10_answers 51 = .ok (.iconst 2, 1) := by decide +kernel
theorem dX10_answers_52 : decode cX10_answers 52 = .ok (.iload_n 1, 1) := by decide +kernel
theorem dX10_answers_53 : decode cX10_answers 53 = .ok (.imul, 1) := by decide +kernel
theorem dX10_answers_54 : decode cX10_answers 54 = .ok (.iload_n 2, 1) := by decide +kernel
theorem dX10_answers_55 : decode cX10_answers 55 = .ok (.iadd, 1) := by decide +kernel
theorem dX10_answers_56 : decode cX10_answers 56 = .ok (.iconst 0, 1) := by decide +kernel
theorem dX10_answers_57 : decode cX10_answers 57 = .ok (.iastore, 1) := by decide +kernel
theorem dX10_answers_58 : decode cX10_answers 58 = .ok (.aload_n 0, 1) := by decide +kernel
theorem dX10_answers_59 : decode cX10_answers 59 = .ok (.getfield 72, 3) := by decide +kernel
theorem dX10_answers_62 : decode cX10_answers 62 = .ok (.iconst 2, 1) := by decide +kernel
theorem dX10_answers_63 : decode cX10_answers 63 = .ok (.iload_n 1, 1) := by decide +kernel
theorem dX10_answers_64 : decode cX10_answers 64 = .ok (.imul, 1) := by decide +kernel
theorem dX10_answers_65 : decode cX10_answers 65 = .ok (.iload_n 2, 1) := by decide +kernel
theorem dX10_answers_66 : decode cX10_answers 66 = .ok (.iadd, 1) := by decide +kernel
theorem dX10_answers_67 : decode cX10_answers 67 = .ok (.dup2, 1) := by decide +kernel
theorem dX10_answers_68 : decode cX10_answers 68 = .ok (.iaload, 1) := by decide +kernel
theorem dX10_answers_69 : decode cX10_answers 69 = .ok (.iconst 1, 1) := by decide +kernel
theorem dX10_answers_70 : decode cX10_answers 70 = .ok (.iadd, 1) := by decide +kernel
theorem dX10_answers_71 : decode cX10_answers 71 = .ok (.iastore, 1) := by decide +kernel
theorem dX10_answers_72 : decode cX10_answers 72 = .ok (.return_, 1) := by decide +kernel
theorem dX10_wasHurt_0 : decode cX10_wasHurt 0 = .ok (.iconst 0, 1) := by decide +kernel
theorem dX10_wasHurt_1 : decode cX10_wasHurt 1 = .ok (.istore_n 2, 1) := by decide +kernel
theorem dX10_wasHurt_2 : decode cX10_wasHurt 2 = .ok (.iload_n 2, 1) := by decide +kernel
theorem dX10_wasHurt_3 : decode cX10_wasHurt 3 = .ok (.aload_n 0, 1) := by decide +kernel
theorem dX10_wasHurt_4 : decode cX10_wasHurt 4 = .ok (.getfield 13, 3) := by decide +kernel
theorem dX10_wasHurt_7 : decode cX10_wasHurt 7 = .ok (.iconst 1, 1) := by decide +kernel
theorem dX10_wasHurt_8 : decode cX10_wasHurt 8 = .ok (.iaload, 1) := by decide +kernel
theorem dX10_wasHurt_9 : decode cX10_wasHurt 9 = .ok (.if_icmp .ge 32, 3) := by decide +kernel
theorem dX10_wasHurt_12 : decode cX10_wasHurt 12 = .ok (.aload_n 0, 1) := by decide +kernel
theorem dX10_wasHurt_13 : decode cX10_wasHurt 13 = .ok (.getfield 361, 3) := by decide +kernel
theorem dX10_wasHurt_16 : decode cX10_wasHurt 16 = .ok (.iload_n 2, 1) := by decide +kernel
theorem dX10_wasHurt_17 : decode cX10_wasHurt 17 = .ok (.ishr, 1) := by decide +kernel
theorem dX10_wasHurt_18 : decode cX10_wasHurt 18 = .ok (.iconst 1, 1) := by decide +kernel
theorem dX10_wasHurt_19 : decode cX10_wasHurt 19 = .ok (.iand, 1) := by decide +kernel
theorem dX10_wasHurt_20 : decode cX10_wasHurt 20 = .ok (.iconst 1, 1) := by decide +kernel
theorem dX10_wasHurt_21 : decode cX10_wasHurt 21 = .ok (.if_icmp .ne 14, 3) := by decide +kernel
theorem dX10_wasHurt_24 : decode cX10_wasHurt 24 = .ok (.aload_n 0, 1) := by decide +kernel
theorem dX10_wasHurt_25 : decode cX10_wasHurt 25 = .ok (.iload_n 2, 1) := by decide +kernel
theorem dX10_wasHurt_26 : decode cX10_wasHurt 26 = .ok (.invokevirtual 314, 3) := by decide +kernel
theorem dX10_wasHurt_29 : decode cX10_wasHurt 29 = .ok (.iload_n 1, 1) := by decide +kernel
theorem dX10_wasHurt_30 : decode cX10_wasHurt 30 = .ok (.if_icmp .ne 5, 3) := by decide +kernel
theorem dX10_wasHurt_33 : decode cX10_wasHurt 33 = .ok (.iconst 1, 1) := by decide +kernel
theorem dX10_wasHurt_34 : decode cX10_wasHurt 34 = .ok (.ireturn, 1) := by decide +kernel
theorem dX10_wasHurt_35 : decode cX10_wasHurt 35 = .ok (.iinc 2 1, 3) := by decide +kernel
theorem dX10_wasHurt_38 : decode cX10_wasHurt 38 = .ok (.goto (-36), 3) := by decide +kernel
theorem dX10_wasHurt_41 : decode cX10_wasHurt 41 = .ok (.iconst 0, 1) := by decide +kernel
theorem dX10_wasHurt_42 : decode cX10_wasHurt 42 = .ok (.ireturn, 1) := by decide +kernel
theorem dX10_passes_0 : decode cX10_passes 0 = .ok (.aload_n 0, 1) := by decide +kernel
theorem dX10_passes_1 : decode cX10_passes 1 = .ok (.iconst 0, 1) := by decide +kernel
theorem dX10_passes_2 : decode cX10_passes 2 = .ok (.putfield 361, 3) := by decide +kernel
theorem dX10_passes_5 : decode cX10_passes 5 = .ok (.iconst 0, 1) := by decide +kernel
theorem dX10_passes_6 : decode cX10_passes 6 = .ok (.istore_n 3, 1) := by decide +kernel
theorem dX10_passes_7 : decode cX10_passes 7 = .ok (.iload_n 3, 1) := by decide +kernel
theorem dX10_passes_8 : decode cX10_passes 8 = .ok (.aload_n 0, 1) := by decide +kernel
theorem dX10_passes_9 : decode cX10_passes 9 = .ok (.getfield 13, 3) := by decide +kernel
theorem dX10_passes_12 : decode cX10_passes 12 = .ok (.iconst 1, 1) := by decide +kernel
theorem dX10_passes_13 : decode cX10_passes 13 = .ok (.iaload, 1) := by decide +kernel
theorem dX10_passes_14 : decode cX10_passes 14 = .ok (.if_icmp .ge 47, 3) := by decide +kernel
theorem dX10_passes_17 : decode cX10_passes 17 = .ok (.aload_n 0, 1) := by decide +kernel
theorem dX10_passes_18 : decode cX10_passes 18 = .ok (.iload_n 1, 1) := by decide +kernel
theorem dX10_passes_19 : decode cX10_passes 19 = .ok (.iload_n 3, 1) := by decide +kernel
theorem dX10_passes_20 : decode cX10_passes 20 = .ok (.invokevirtual 310, 3) := by decide +kernel
theorem dX10_passes_23 : decode cX10_passes 23 = .ok (.ifCond .eq 32, 3) := by decide +kernel
theorem dX10_passes_26 : decode cX10_passes 26 = .ok (.aload_n 0, 1) := by decide +kernel
theorem dX10_passes_27 : decode cX10_passes 27 = .ok (.iload_n 1, 1) := by decide +kernel
theorem dX10_passes_28 : decode cX10_passes 28 = .ok (.iload_n 3, 1) := by decide +kernel
theorem dX10_passes_29 : decode cX10_passes 29 = .ok (.iload_n 2, 1) := by decide +kernel
theorem dX10_passes_30 : decode cX10_passes 30 = .ok (.invokevirtual 374, 3) := by decide +kernel
theorem dX10_passes_33 : decode cX10_passes 33 = .ok (.ifCond .ne 6, 3) := by decide +kernel
theorem dX10_passes_36 : decode cX10_passes 36 = .ok (.goto 19, 3) := by decide +kernel
theorem dX10_passes_39 : decode cX10_passes 39 = .ok (.aload_n 0, 1) := by decide +kernel
theorem dX10_passes_40 : decode cX10_passes 40 = .ok (.getfield 66, 3) := by decide +kernel
theorem dX10_passes_43 : decode cX10_passes 43 = .ok (.iload_n 1, 1) := by decide +kernel
theorem dX10_passes_44 : decode cX10_passes 44 = .ok (.dup2, 1) := by decide +kernel
theorem dX10_passes_45 : decode cX10_passes 45 = .ok (.iaload, 1) := by decide +kernel
theorem dX10_passes_46 : decode cX10_passes 46 = .ok (.iconst 1, 1) := by decide +kernel
theorem dX10_passes_47 : decode cX10_passes 47 = .ok (.iadd, 1) := by decide +kernel
theorem dX10_passes_48 : decode cX10_passes 48 = .ok (.iastore, 1) := by decide +kernel
theorem dX10_passes_49 : decode cX10_passes 49 = .ok (.aload_n 0, 1) := by decide +kernel
theorem dX10_passes_50 : decode cX10_passes 50 = .ok (.iload_n 1, 1) := by decide +kernel
theorem dX10_passes_51 : decode cX10_passes 51 = .ok (.iload_n 3, 1) := by decide +kernel
theorem dX10_passes_52 : decode cX10_passes 52 = .ok (.invokevirtual 371, 3) := by decide +kernel
theorem dX10_passes_55 : decode cX10_passes 55 = .ok (.iinc 3 1, 3) := by decide +kernel
theorem dX10_passes_58 : decode cX10_passes 58 = .ok (.goto (-51), 3) := by decide +kernel
theorem dX10_passes_61 : decode cX10_passes 61 = .ok (.aload_n 0, 1) := by decide +kernel
theorem dX10_passes_62 : decode cX10_passes 62 = .ok (.iload_n 1, 1) := by decide +kernel
theorem dX10_passes_63 : decode cX10_passes 63 = .ok (.iconst 0, 1) := by decide +kernel
theorem dX10_passes_64 : decode cX10_passes 64 = .ok (.invokevirtual 378, 3) := by decide +kernel
theorem dX10_passes_67 : decode cX10_passes 67 = .ok (.aload_n 0, 1) := by decide +kernel
theorem dX10_passes_68 : decode cX10_passes 68 = .ok (.iload_n 1, 1) := by decide +kernel
theorem dX10_passes_69 : decode cX10_passes 69 = .ok (.iconst 1, 1) := by decide +kernel
theorem dX10_passes_70 : decode cX10_passes 70 = .ok (.invokevirtual 378, 3) := by decide +kernel
theorem dX10_passes_73 : decode cX10_passes 73 = .ok (.iconst 0, 1) := by decide +kernel
theorem dX10_passes_74 : decode cX10_passes 74 = .ok (.istore_n 3, 1) := by decide +kernel
theorem dX10_passes_75 : decode cX10_passes 75 = .ok (.iload_n 3, 1) := by decide +kernel
theorem dX10_passes_76 : decode cX10_passes 76 = .ok (.iconst 2, 1) := by decide +kernel
theorem dX10_passes_77 : decode cX10_passes 77 = .ok (.if_icmp .ge 67, 3) := by decide +kernel
theorem dX10_passes_80 : decode cX10_passes 80 = .ok (.aload_n 0, 1) := by decide +kernel
theorem dX10_passes_81 : decode cX10_passes 81 = .ok (.iload_n 3, 1) := by decide +kernel
theorem dX10_passes_82 : decode cX10_passes 82 = .ok (.invokevirtual 381, 3) := by decide +kernel
theorem dX10_passes_85 : decode cX10_passes 85 = .ok (.ifCond .ne 53, 3) := by decide +kernel
theorem dX10_passes_88 : decode cX10_passes 88 = .ok (.aload_n 0, 1) := by decide +kernel
theorem dX10_passes_89 : decode cX10_passes 89 = .ok (.getfield 317, 3) := by decide +kernel
theorem dX10_passes_92 : decode cX10_passes 92 = .ok (.iconst 5, 1) := by decide +kernel
theorem dX10_passes_93 : decode cX10_passes 93 = .ok (.if_icmp .ne 6, 3) := by decide +kernel
theorem dX10_passes_96 : decode cX10_passes 96 = .ok (.goto 42, 3) := by decide +kernel
theorem dX10_passes_99 : decode cX10_passes 99 = .ok (.aload_n 0, 1) := by decide +kernel
theorem dX10_passes_100 : decode cX10_passes 100 = .ok (.iload_n 1, 1) := by decide +kernel
theorem dX10_passes_101 : decode cX10_passes 101 = .ok (.iload_n 3, 1) := by decide +kernel
theorem dX10_passes_102 : decode cX10_passes 102 = .ok (.invokevirtual 384, 3) := by decide +kernel
theorem dX10_passes_105 : decode cX10_passes 105 = .ok (.aload_n 0, 1) := by decide +kernel
theorem dX10_passes_106 : decode cX10_passes 106 = .ok (.getfield 69, 3) := by decide +kernel
theorem dX10_passes_109 : decode cX10_passes 109 = .ok (.iconst 2, 1) := by decide +kernel
theorem dX10_passes_110 : decode cX10_passes 110 = .ok (.iload_n 1, 1) := by decide +kernel
theorem dX10_passes_111 : decode cX10_passes 111 = .ok (.imul, 1) := by decide +kernel
theorem dX10_passes_112 : decode cX10_passes 112 = .ok (.iload_n 3, 1) := by decide +kernel
theorem dX10_passes_113 : decode cX10_passes 113 = .ok (.iadd, 1) := by decide +kernel
theorem dX10_passes_114 : decode cX10_passes 114 = .ok (.iconst 0, 1) := by decide +kernel
theorem dX10_passes_115 : decode cX10_passes 115 = .ok (.aload_n 0, 1) := by decide +kernel
theorem dX10_passes_116 : decode cX10_passes 116 = .ok (.getfield 69, 3) := by decide +kernel
theorem dX10_passes_119 : decode cX10_passes 119 = .ok (.iconst 2, 1) := by decide +kernel
theorem dX10_passes_120 : decode cX10_passes 120 = .ok (.iload_n 1, 1) := by decide +kernel
theorem dX10_passes_121 : decode cX10_passes 121 = .ok (.imul, 1) := by decide +kernel
theorem dX10_passes_122 : decode cX10_passes 122 = .ok (.iload_n 3, 1) := by decide +kernel
theorem dX10_passes_123 : decode cX10_passes 123 = .ok (.iadd, 1) := by decide +kernel
theorem dX10_passes_124 : decode cX10_passes 124 = .ok (.iaload, 1) := by decide +kernel
theorem dX10_passes_125 : decode cX10_passes 125 = .ok (.aload_n 0, 1) := by decide +kernel
theorem dX10_passes_126 : decode cX10_passes 126 = .ok (.iconst 2, 1) := by decide +kernel
theorem dX10_passes_127 : decode cX10_passes 127 = .ok (.bipush 99, 2) := by decide +kernel
theorem dX10_passes_129 : decode cX10_passes 129 = .ok (.iconst 1, 1) := by decide +kernel
theorem dX10_passes_130 : decode cX10_passes 130 = .ok (.invokevirtual 345, 3) := by decide +kernel
theorem dX10_passes_133 : decode cX10_passes 133 = .ok (.isub, 1) := by decide +kernel
theorem dX10_passes_134 : decode cX10_passes 134 = .ok (.invokestatic 343, 3) := by decide +kernel
theorem dX10_passes_137 : decode cX10_passes 137 = .ok (.iastore, 1) := by decide +kernel
theorem dX10_passes_138 : decode cX10_passes 138 = .ok (.iinc 3 1, 3) := by decide +kernel
theorem dX10_passes_141 : decode cX10_passes 141 = .ok (.goto (-66), 3) := by decide +kernel
theorem dX10_passes_144 : decode cX10_passes 144 = .ok (.iconst 0, 1) := by decide +kernel
theorem dX10_passes_145 : decode cX10_passes 145 = .ok (.istore_n 3, 1) := by decide +kernel
theorem dX10_passes_146 : decode cX10_passes 146 = .ok (.iload_n 3, 1) := by decide +kernel
theorem dX10_passes_147 : decode cX10_passes 147 = .ok (.aload_n 0, 1) := by decide +kernel
theorem dX10_passes_148 : decode cX10_passes 148 = .ok (.getfield 13, 3) := by decide +kernel
theorem dX10_passes_151 : decode cX10_passes 151 = .ok (.iconst 1, 1) := by decide +kernel
theorem dX10_passes_152 : decode cX10_passes 152 = .ok (.iaload, 1) := by decide +kernel
theorem dX10_passes_153 : decode cX10_passes 153 = .ok (.if_icmp .ge 78, 3) := by decide +kernel
theorem dX10_passes_156 : decode cX10_passes 156 = .ok (.bipush 10, 2) := by decide +kernel
theorem dX10_passes_158 : decode cX10_passes 158 = .ok (.iload_n 1, 1) := by decide +kernel
theorem dX10_passes_159 : decode cX10_passes 159 = .ok (.imul, 1) := by decide +kernel
theorem dX10_passes_160 : decode cX10_passes 160 = .ok (.iload_n 3, 1) := by decide +kernel
theorem dX10_passes_161 : decode cX10_passes 161 = .ok (.iadd, 1) := by decide +kernel
theorem dX10_passes_162 : decode cX10_passes 162 = .ok (.istore 4, 2) := by decide +kernel
theorem dX10_passes_164 : decode cX10_passes 164 = .ok (.aload_n 0, 1) := by decide +kernel
theorem dX10_passes_165 : decode cX10_passes 165 = .ok (.iload_n 1, 1) := by decide +kernel
theorem dX10_passes_166 : decode cX10_passes 166 = .ok (.iload_n 3, 1) := by decide +kernel
theorem dX10_passes_167 : decode cX10_passes 167 = .ok (.invokevirtual 310, 3) := by decide +kernel
theorem dX10_passes_170 : decode cX10_passes 170 = .ok (.ifCond .ne 6, 3) := by decide +kernel
theorem dX10_passes_173 : decode cX10_passes 173 = .ok (.goto 52, 3) := by decide +kernel
theorem dX10_passes_176 : decode cX10_passes 176 = .ok (.aload_n 0, 1) := by decide +kernel
theorem dX10_passes_177 : decode cX10_passes 177 = .ok (.getfield 81, 3) := by decide +kernel
theorem dX10_passes_180 : decode cX10_passes 180 = .ok (.iload 4, 2) := by decide +kernel
theorem dX10_passes_182 : decode cX10_passes 182 = .ok (.aload_n 0, 1) := by decide +kernel
theorem dX10_passes_183 : decode cX10_passes 183 = .ok (.getfield 361, 3) := by decide +kernel
theorem dX10_passes_186 : decode cX10_passes 186 = .ok (.iload_n 3, 1) := by decide +kernel
theorem dX10_passes_187 : decode cX10_passes 187 = .ok (.ishr, 1) := by decide +kernel
theorem dX10_passes_188 : decode cX10_passes 188 = .ok (.iconst 1, 1) := by decide +kernel
theorem dX10_passes_189 : decode cX10_passes 189 = .ok (.iand, 1) := by decide +kernel
theorem dX10_passes_190 : decode cX10_passes 190 = .ok (.iconst 1, 1) := by decide +kernel
theorem dX10_passes_191 : decode cX10_passes 191 = .ok (.if_icmp .ne 19, 3) := by decide +kernel
theorem dX10_passes_194 : decode cX10_passes 194 = .ok (.iconst 0, 1) := by decide +kernel
theorem dX10_passes_195 : decode cX10_passes 195 = .ok (.aload_n 0, 1) := by decide +kernel
theorem dX10_passes_196 : decode cX10_passes 196 = .ok (.getfield 81, 3) := by decide +kernel
theorem dX10_passes_199 : decode cX10_passes 199 = .ok (.iload 4, 2) := by decide +kernel
theorem dX10_passes_201 : decode cX10_passes 201 = .ok (.iaload, 1) := by decide +kernel
theorem dX10_passes_202 : decode cX10_passes 202 = .ok (.iconst 2, 1) := by decide +kernel
theorem dX10_passes_203 : decode cX10_passes 203 = .ok (.isub, 1) := by decide +kernel
theorem dX10_passes_204 : decode cX10_passes 204 = .ok (.invokestatic 343, 3) := by decide +kernel
theorem dX10_passes_207 : decode cX10_passes 207 = .ok (.goto 17, 3) := by decide +kernel
theorem dX10_passes_210 : decode cX10_passes 210 = .ok (.bipush 9, 2) := by decide +kernel
theorem dX10_passes_212 : decode cX10_passes 212 = .ok (.aload_n 0, 1) := by decide +kernel
theorem dX10_passes_213 : decode cX10_passes 213 = .ok (.getfield 81, 3) := by decide +kernel
theorem dX10_passes_216 : decode cX10_passes 216 = .ok (.iload 4, 2) := by decide +kernel
theorem dX10_passes_218 : decode cX10_passes 218 = .ok (.iaload, 1) := by decide +kernel
theorem dX10_passes_219 : decode cX10_passes 219 = .ok (.iconst 1, 1) := by decide +kernel
theorem dX10_passes_220 : decode cX10_passes 220 = .ok (.iadd, 1) := by decide +kernel
theorem dX10_passes_221 : decode cX10_passes 221 = .ok (.invokestatic 359, 3) := by decide +kernel
theorem dX10_passes_224 : decode cX10_passes 224 = .ok (.iastore, 1) := by decide +kernel
theorem dX10_passes_225 : decode cX10_passes 225 = .ok (.iinc 3 1, 3) := by decide +kernel
theorem dX10_passes_228 : decode cX10_passes 228 = .ok (.goto (-82), 3) := by decide +kernel
theorem dX10_passes_231 : decode cX10_passes 231 = .ok (.aload_n 0, 1) := by decide +kernel
theorem dX10_passes_232 : decode cX10_passes 232 = .ok (.getfield 60, 3) := by decide +kernel
theorem dX10_passes_235 : decode cX10_passes 235 = .ok (.iload_n 1, 1) := by decide +kernel
theorem dX10_passes_236 : decode cX10_passes 236 = .ok (.dup2, 1) := by decide +kernel
theorem dX10_passes_237 : decode cX10_passes 237 = .ok (.iaload, 1) := by decide +kernel
theorem dX10_passes_238 : decode cX10_passes 238 = .ok (.iconst 1, 1) := by decide +kernel
theorem dX10_passes_239 : decode cX10_passes 239 = .ok (.iadd, 1) := by decide +kernel
theorem dX10_passes_240 : decode cX10_passes 240 = .ok (.iastore, 1) := by decide +kernel
theorem dX10_passes_241 : decode cX10_passes 241 = .ok (.return_, 1) := by decide +kernel
theorem dX10_goesOn_0 : decode cX10_goesOn 0 = .ok (.iconst 0, 1) := by decide +kernel
theorem dX10_goesOn_1 : decode cX10_goesOn 1 = .ok (.istore_n 2, 1) := by decide +kernel
theorem dX10_goesOn_2 : decode cX10_goesOn 2 = .ok (.iload_n 2, 1) := by decide +kernel
theorem dX10_goesOn_3 : decode cX10_goesOn 3 = .ok (.iload_n 1, 1) := by decide +kernel
theorem dX10_goesOn_4 : decode cX10_goesOn 4 = .ok (.if_icmp .ge 15, 3) := by decide +kernel
theorem dX10_goesOn_7 : decode cX10_goesOn 7 = .ok (.aload_n 0, 1) := by decide +kernel
theorem dX10_goesOn_8 : decode cX10_goesOn 8 = .ok (.iconst 1, 1) := by decide +kernel
theorem dX10_goesOn_9 : decode cX10_goesOn 9 = .ok (.iconst 0, 1) := by decide +kernel
theorem dX10_goesOn_10 : decode cX10_goesOn 10 = .ok (.invokevirtual 387, 3) := by decide +kernel
theorem dX10_goesOn_13 : decode cX10_goesOn 13 = .ok (.iinc 2 1, 3) := by decide +kernel
theorem dX10_goesOn_16 : decode cX10_goesOn 16 = .ok (.goto (-14), 3) := by decide +kernel
theorem dX10_goesOn_19 : decode cX10_goesOn 19 = .ok (.return_, 1) := by decide +kernel
theorem dX10_runs_0 : decode cX10_runs 0 = .ok (.aload_n 0, 1) := by decide +kernel
theorem dX10_runs_1 : decode cX10_runs 1 = .ok (.iconst 1, 1) := by decide +kernel
theorem dX10_runs_2 : decode cX10_runs 2 = .ok (.iconst 0, 1) := by decide +kernel
theorem dX10_runs_3 : decode cX10_runs 3 = .ok (.invokevirtual 391, 3) := by decide +kernel
theorem dX10_runs_6 : decode cX10_runs 6 = .ok (.aload_n 0, 1) := by decide +kernel
theorem dX10_runs_7 : decode cX10_runs 7 = .ok (.iload_n 1, 1) := by decide +kernel
theorem dX10_runs_8 : decode cX10_runs 8 = .ok (.invokevirtual 394, 3) := by decide +kernel
theorem dX10_runs_11 : decode cX10_runs 11 = .ok (.return_, 1) := by decide +kernel
theorem dX10_angerBoth_0 : decode cX10_angerBoth 0 = .ok (.aload_n 0, 1) := by decide +kernel
theorem dX10_angerBoth_1 : decode cX10_angerBoth 1 = .ok (.getfield 69, 3) := by decide +kernel
theorem dX10_angerBoth_4 : decode cX10_angerBoth 4 = .ok (.iconst 2, 1) := by decide +kernel
theorem dX10_angerBoth_5 : decode cX10_angerBoth 5 = .ok (.iload_n 1, 1) := by decide +kernel
theorem dX10_angerBoth_6 : decode cX10_angerBoth 6 = .ok (.imul, 1) := by decide +kernel
theorem dX10_angerBoth_7 : decode cX10_angerBoth 7 = .ok (.iaload, 1) := by decide +kernel
theorem dX10_angerBoth_8 : decode cX10_angerBoth 8 = .ok (.aload_n 0, 1) := by decide +kernel
theorem dX10_angerBoth_9 : decode cX10_angerBoth 9 = .ok (.getfield 69, 3) := by decide +kernel
theorem dX10_angerBoth_12 : decode cX10_angerBoth 12 = .ok (.iconst 2, 1) := by decide +kernel
theorem dX10_angerBoth_13 : decode cX10_angerBoth 13 = .ok (.iload_n 1, 1) := by decide +kernel
theorem dX10_angerBoth_14 : decode cX10_angerBoth 14 = .ok (.imul, 1) := by decide +kernel
theorem dX10_angerBoth_15 : decode cX10_angerBoth 15 = .ok (.iconst 1, 1) := by decide +kernel
theorem dX10_angerBoth_16 : decode cX10_angerBoth 16 = .ok (.iadd, 1) := by decide +kernel
theorem dX10_angerBoth_17 : decode cX10_angerBoth 17 = .ok (.iaload, 1) := by decide +kernel
theorem dX10_angerBoth_18 : decode cX10_angerBoth 18 = .ok (.iadd, 1) := by decide +kernel
theorem dX10_angerBoth_19 : decode cX10_angerBoth 19 = .ok (.ireturn, 1) := by decide +kernel
theorem dX10_breachesBoth_0 : decode cX10_breachesBoth 0 = .ok (.aload_n 0, 1) := by decide +kernel
theorem dX10_breachesBoth_1 : decode cX10_breachesBoth 1 = .ok (.getfield 72, 3) := by decide +kernel
theorem dX10_breachesBoth_4 : decode cX10_breachesBoth 4 = .ok (.iconst 2, 1) := by decide +kernel
theorem dX10_breachesBoth_5 : decode cX10_breachesBoth 5 = .ok (.iload_n 1, 1) := by decide +kernel
theorem dX10_breachesBoth_6 : decode cX10_breachesBoth 6 = .ok (.imul, 1) := by decide +kernel
theorem dX10_breachesBoth_7 : decode cX10_breachesBoth 7 = .ok (.iaload, 1) := by decide +kernel
theorem dX10_breachesBoth_8 : decode cX10_breachesBoth 8 = .ok (.aload_n 0, 1) := by decide +kernel
theorem dX10_breachesBoth_9 : decode cX10_breachesBoth 9 = .ok (.getfield 72, 3) := by decide +kernel
theorem dX10_breachesBoth_12 : decode cX10_breachesBoth 12 = .ok (.iconst 2, 1) := by decide +kernel
theorem dX10_breachesBoth_13 : decode cX10_breachesBoth 13 = .ok (.iload_n 1, 1) := by decide +kernel
theorem dX10_breachesBoth_14 : decode cX10_breachesBoth 14 = .ok (.imul, 1) := by decide +kernel
theorem dX10_breachesBoth_15 : decode cX10_breachesBoth 15 = .ok (.iconst 1, 1) := by decide +kernel
theorem dX10_breachesBoth_16 : decode cX10_breachesBoth 16 = .ok (.iadd, 1) := by decide +kernel
theorem dX10_breachesBoth_17 : decode cX10_breachesBoth 17 = .ok (.iaload, 1) := by decide +kernel
theorem dX10_breachesBoth_18 : decode cX10_breachesBoth 18 = .ok (.iadd, 1) := by decide +kernel
theorem dX10_breachesBoth_19 : decode cX10_breachesBoth 19 = .ok (.ireturn, 1) := by decide +kernel
theorem dX10_hurtAll_0 : decode cX10_hurtAll 0 = .ok (.iconst 0, 1) := by decide +kernel
theorem dX10_hurtAll_1 : decode cX10_hurtAll 1 = .ok (.istore_n 2, 1) := by decide +kernel
theorem dX10_hurtAll_2 : decode cX10_hurtAll 2 = .ok (.iconst 0, 1) := by decide +kernel
theorem dX10_hurtAll_3 : decode cX10_hurtAll 3 = .ok (.istore_n 3, 1) := by decide +kernel
theorem dX10_hurtAll_4 : decode cX10_hurtAll 4 = .ok (.iload_n 3, 1) := by decide +kernel
theorem dX10_hurtAll_5 : decode cX10_hurtAll 5 = .ok (.aload_n 0, 1) := by decide +kernel
theorem dX10_hurtAll_6 : decode cX10_hurtAll 6 = .ok (.getfield 13, 3) := by decide +kernel
theorem dX10_hurtAll_9 : decode cX10_hurtAll 9 = .ok (.iconst 1, 1) := by decide +kernel
theorem dX10_hurtAll_10 : decode cX10_hurtAll 10 = .ok (.iaload, 1) := by decide +kernel
theorem dX10_hurtAll_11 : decode cX10_hurtAll 11 = .ok (.if_icmp .ge 23, 3) := by decide +kernel
theorem dX10_hurtAll_14 : decode cX10_hurtAll 14 = .ok (.iload_n 2, 1) := by decide +kernel
theorem dX10_hurtAll_15 : decode cX10_hurtAll 15 = .ok (.aload_n 0, 1) := by decide +kernel
theorem dX10_hurtAll_16 : decode cX10_hurtAll 16 = .ok (.getfield 78, 3) := by decide +kernel
theorem dX10_hurtAll_19 : decode cX10_hurtAll 19 = .ok (.bipush 10, 2) := by decide +kernel
theorem dX10_hurtAll_21 : decode cX10_hurtAll 21 = .ok (.iload_n 1, 1) := by decide +kernel
theorem dX10_hurtAll_22 : decode cX10_hurtAll 22 = .ok (.imul, 1) := by decide +kernel
theorem dX10_hurtAll_23 : decode cX10_hurtAll 23 = .ok (.iload_n 3, 1) := by decide +kernel
theorem dX10_hurtAll_24 : decode cX10_hurtAll 24 = .ok (.iadd, 1) := by decide +kernel
theorem dX10_hurtAll_25 : decode cX10_hurtAll 25 = .ok (.iaload, 1) := by decide +kernel
theorem dX10_hurtAll_26 : decode cX10_hurtAll 26 = .ok (.iadd, 1) := by decide +kernel
theorem dX10_hurtAll_27 : decode cX10_hurtAll 27 = .ok (.istore_n 2, 1) := by decide +kernel
theorem dX10_hurtAll_28 : decode cX10_hurtAll 28 = .ok (.iinc 3 1, 3) := by decide +kernel
theorem dX10_hurtAll_31 : decode cX10_hurtAll 31 = .ok (.goto (-27), 3) := by decide +kernel
theorem dX10_hurtAll_34 : decode cX10_hurtAll 34 = .ok (.iload_n 2, 1) := by decide +kernel
theorem dX10_hurtAll_35 : decode cX10_hurtAll 35 = .ok (.ireturn, 1) := by decide +kernel
theorem dX10_doll_0 : decode cX10_doll 0 = .ok (.aload_n 0, 1) := by decide +kernel
theorem dX10_doll_1 : decode cX10_doll 1 = .ok (.aload_n 0, 1) := by decide +kernel
theorem dX10_doll_2 : decode cX10_doll 2 = .ok (.iload_n 1, 1) := by decide +kernel
theorem dX10_doll_3 : decode cX10_doll 3 = .ok (.invokevirtual 397, 3) := by decide +kernel
theorem dX10_doll_6 : decode cX10_doll 6 = .ok (.ifCond .ne 7, 3) := by decide +kernel
theorem dX10_doll_9 : decode cX10_doll 9 = .ok (.iconst 1, 1) := by decide +kernel
theorem dX10_doll_10 : decode cX10_doll 10 = .ok (.goto 18, 3) := by decide +kernel
theorem dX10_doll_13 : decode cX10_doll 13 = .ok (.iload_n 2, 1) := by decide +kernel
theorem dX10_doll_14 : decode cX10_doll 14 = .ok (.ifCond .lt 9, 3) := by decide +kernel
theorem dX10_doll_17 : decode cX10_doll 17 = .ok (.iload_n 2, 1) := by decide +kernel
theorem dX10_doll_18 : decode cX10_doll 18 = .ok (.bipush 6, 2) := by decide +kernel
theorem dX10_doll_20 : decode cX10_doll 20 = .ok (.if_icmp .le 7, 3) := by decide +kernel
theorem dX10_doll_23 : decode cX10_doll 23 = .ok (.iconst 2, 1) := by decide +kernel
theorem dX10_doll_24 : decode cX10_doll 24 = .ok (.goto 4, 3) := by decide +kernel
theorem dX10_doll_27 : decode cX10_doll 27 = .ok (.iconst 0, 1) := by decide +kernel
theorem dX10_doll_28 : decode cX10_doll 28 = .ok (.putfield 124, 3) := by decide +kernel
theorem dX10_doll_31 : decode cX10_doll 31 = .ok (.aload_n 0, 1) := by decide +kernel
theorem dX10_doll_32 : decode cX10_doll 32 = .ok (.getfield 124, 3) := by decide +kernel
theorem dX10_doll_35 : decode cX10_doll 35 = .ok (.ifCond .eq 5, 3) := by decide +kernel
theorem dX10_doll_38 : decode cX10_doll 38 = .ok (.iconst 0, 1) := by decide +kernel
theorem dX10_doll_39 : decode cX10_doll 39 = .ok (.ireturn, 1) := by decide +kernel
theorem dX10_doll_40 : decode cX10_doll 40 = .ok (.iload_n 2, 1) := by decide +kernel
theorem dX10_doll_41 : decode cX10_doll 41 = .ok (.tableswitch 80 0 5 #[39, 46, 52, 59, 66, 73], 39) := by decide +kernel
theorem dX10_doll_80 : decode cX10_doll 80 = .ok (.aload_n 0, 1) := by decide +kernel
theorem dX10_doll_81 : decode cX10_doll 81 = .ok (.getfield 75, 3) := by decide +kernel
theorem dX10_doll_84 : decode cX10_doll 84 = .ok (.iload_n 1, 1) := by decide +kernel
theorem dX10_doll_85 : decode cX10_doll 85 = .ok (.iaload, 1) := by decide +kernel
theorem dX10_doll_86 : decode cX10_doll 86 = .ok (.ireturn, 1) := by decide +kernel
theorem dX10_doll_87 : decode cX10_doll 87 = .ok (.aload_n 0, 1) := by decide +kernel
theorem dX10_doll_88 : decode cX10_doll 88 = .ok (.iload_n 1, 1) := by decide +kernel
theorem dX10_doll_89 : decode cX10_doll 89 = .ok (.invokevirtual 314, 3) := by decide +kernel
theorem dX10_doll_92 : decode cX10_doll 92 = .ok (.ireturn, 1) := by decide +kernel
theorem dX10_doll_93 : decode cX10_doll 93 = .ok (.aload_n 0, 1) := by decide +kernel
theorem dX10_doll_94 : decode cX10_doll 94 = .ok (.getfield 31, 3) := by decide +kernel
theorem dX10_doll_97 : decode cX10_doll 97 = .ok (.iload_n 1, 1) := by decide +kernel
theorem dX10_doll_98 : decode cX10_doll 98 = .ok (.iaload, 1) := by decide +kernel
theorem dX10_doll_99 : decode cX10_doll 99 = .ok (.ireturn, 1) := by decide +kernel
theorem dX10_doll_100 : decode cX10_doll 100 = .ok (.aload_n 0, 1) := by decide +kernel
theorem dX10_doll_101 : decode cX10_doll 101 = .ok (.getfield 34, 3) := by decide +kernel
theorem dX10_doll_104 : decode cX10_doll 104 = .ok (.iload_n 1, 1) := by decide +kernel
theorem dX10_doll_105 : decode cX10_doll 105 = .ok (.iaload, 1) := by decide +kernel
theorem dX10_doll_106 : decode cX10_doll 106 = .ok (.ireturn, 1) := by decide +kernel
theorem dX10_doll_107 : decode cX10_doll 107 = .ok (.aload_n 0, 1) := by decide +kernel
theorem dX10_doll_108 : decode cX10_doll 108 = .ok (.getfield 78, 3) := by decide +kernel
theorem dX10_doll_111 : decode cX10_doll 111 = .ok (.iload_n 1, 1) := by decide +kernel
theorem dX10_doll_112 : decode cX10_doll 112 = .ok (.iaload, 1) := by decide +kernel
theorem dX10_doll_113 : decode cX10_doll 113 = .ok (.ireturn, 1) := by decide +kernel
theorem dX10_doll_114 : decode cX10_doll 114 = .ok (.aload_n 0, 1) := by decide +kernel
theorem dX10_doll_115 : decode cX10_doll 115 = .ok (.getfield 81, 3) := by decide +kernel
theorem dX10_doll_118 : decode cX10_doll 118 = .ok (.iload_n 1, 1) := by decide +kernel
theorem dX10_doll_119 : decode cX10_doll 119 = .ok (.iaload, 1) := by decide +kernel
theorem dX10_doll_120 : decode cX10_doll 120 = .ok (.ireturn, 1) := by decide +kernel
theorem dX10_doll_121 : decode cX10_doll 121 = .ok (.aload_n 0, 1) := by decide +kernel
theorem dX10_doll_122 : decode cX10_doll 122 = .ok (.getfield 84, 3) := by decide +kernel
theorem dX10_doll_125 : decode cX10_doll 125 = .ok (.iload_n 1, 1) := by decide +kernel
theorem dX10_doll_126 : decode cX10_doll 126 = .ok (.iaload, 1) := by decide +kernel
theorem dX10_doll_127 : decode cX10_doll 127 = .ok (.ireturn, 1) := by decide +kernel
theorem dX10_nurse_0 : decode cX10_nurse 0 = .ok (.aload_n 0, 1) := by decide +kernel
theorem dX10_nurse_1 : decode cX10_nurse 1 = .ok (.iconst 0, 1) := by decide +kernel
theorem dX10_nurse_2 : decode cX10_nurse 2 = .ok (.putfield 124, 3) := by decide +kernel
theorem dX10_nurse_5 : decode cX10_nurse 5 = .ok (.aload_n 0, 1) := by decide +kernel
theorem dX10_nurse_6 : decode cX10_nurse 6 = .ok (.iload_n 1, 1) := by decide +kernel
theorem dX10_nurse_7 : decode cX10_nurse 7 = .ok (.invokevirtual 400, 3) := by decide +kernel
theorem dX10_nurse_10 : decode cX10_nurse 10 = .ok (.ifCond .eq 12, 3) := by decide +kernel
theorem dX10_nurse_13 : decode cX10_nurse 13 = .ok (.iload_n 2, 1) := by decide +kernel
theorem dX10_nurse_14 : decode cX10_nurse 14 = .ok (.ifCond .lt 8, 3) := by decide +kernel
theorem dX10_nurse_17 : decode cX10_nurse 17 = .ok (.iload_n 2, 1) := by decide +kernel
theorem dX10_nurse_18 : decode cX10_nurse 18 = .ok (.iconst 2, 1) := by decide +kernel
theorem dX10_nurse_19 : decode cX10_nurse 19 = .ok (.if_icmp .le 5, 3) := by decide +kernel
theorem dX10_nurse_22 : decode cX10_nurse 22 = .ok (.iconst (-1), 1) := by decide +kernel
theorem dX10_nurse_23 : decode cX10_nurse 23 = .ok (.ireturn, 1) := by decide +kernel
theorem dX10_nurse_24 : decode cX10_nurse 24 = .ok (.iload_n 2, 1) := by decide +kernel
theorem dX10_nurse_25 : decode cX10_nurse 25 = .ok (.iconst 2, 1) := by decide +kernel
theorem dX10_nurse_26 : decode cX10_nurse 26 = .ok (.if_icmp .ge 23, 3) := by decide +kernel
theorem dX10_nurse_29 : decode cX10_nurse 29 = .ok (.iload_n 2, 1) := by decide +kernel
theorem dX10_nurse_30 : decode cX10_nurse 30 = .ok (.ifCond .ne 12, 3) := by decide +kernel
theorem dX10_nurse_33 : decode cX10_nurse 33 = .ok (.aload_n 0, 1) := by decide +kernel
theorem dX10_nurse_34 : decode cX10_nurse 34 = .ok (.getfield 19, 3) := by decide +kernel
theorem dX10_nurse_37 : decode cX10_nurse 37 = .ok (.iload_n 1, 1) := by decide +kernel
theorem dX10_nurse_38 : decode cX10_nurse 38 = .ok (.iaload, 1) := by decide +kernel
theorem dX10_nurse_39 : decode cX10_nurse 39 = .ok (.goto 9, 3) := by decide +kernel
theorem dX10_nurse_42 : decode cX10_nurse 42 = .ok (.aload_n 0, 1) := by decide +kernel
theorem dX10_nurse_43 : decode cX10_nurse 43 = .ok (.getfield 22, 3) := by decide +kernel
theorem dX10_nurse_46 : decode cX10_nurse 46 = .ok (.iload_n 1, 1) := by decide +kernel
theorem dX10_nurse_47 : decode cX10_nurse 47 = .ok (.iaload, 1) := by decide +kernel
theorem dX10_nurse_48 : decode cX10_nurse 48 = .ok (.ireturn, 1) := by decide +kernel
theorem dX10_nurse_49 : decode cX10_nurse 49 = .ok (.iconst 0, 1) := by decide +kernel
theorem dX10_nurse_50 : decode cX10_nurse 50 = .ok (.istore_n 3, 1) := by decide +kernel
theorem dX10_nurse_51 : decode cX10_nurse 51 = .ok (.iconst 0, 1) := by decide +kernel
theorem dX10_nurse_52 : decode cX10_nurse 52 = .ok (.istore 4, 2) := by decide +kernel
theorem dX10_nurse_54 : decode cX10_nurse 54 = .ok (.iload 4, 2) := by decide +kernel
theorem dX10_nurse_56 : decode cX10_nurse 56 = .ok (.aload_n 0, 1) := by decide +kernel
theorem dX10_nurse_57 : decode cX10_nurse 57 = .ok (.getfield 13, 3) := by decide +kernel
theorem dX10_nurse_60 : decode cX10_nurse 60 = .ok (.iconst 1, 1) := by decide +kernel
theorem dX10_nurse_61 : decode cX10_nurse 61 = .ok (.iaload, 1) := by decide +kernel
theorem dX10_nurse_62 : decode cX10_nurse 62 = .ok (.if_icmp .ge 38, 3) := by decide +kernel
theorem dX10_nurse_65 : decode cX10_nurse 65 = .ok (.iload_n 3, 1) := by decide +kernel
theorem dX10_nurse_66 : decode cX10_nurse 66 = .ok (.aload_n 0, 1) := by decide +kernel
theorem dX10_nurse_67 : decode cX10_nurse 67 = .ok (.iconst 0, 1) := by decide +kernel
theorem dX10_nurse_68 : decode cX10_nurse 68 = .ok (.iload 4, 2) := by decide +kernel
theorem dX10_nurse_70 : decode cX10_nurse 70 = .ok (.invokevirtual 310, 3) := by decide +kernel
theorem dX10_nurse_73 : decode cX10_nurse 73 = .ok (.ifCond .eq 18, 3) := by decide +kernel
theorem dX10_nurse_76 : decode cX10_nurse 76 = .ok (.aload_n 0, 1) := by decide +kernel
theorem dX10_nurse_77 : decode cX10_nurse 77 = .ok (.getfield 75, 3) := by decide +kernel
theorem dX10_nurse_80 : decode cX10_nurse 80 = .ok (.iload 4, 2) := by decide +kernel
theorem dX10_nurse_82 : decode cX10_nurse 82 = .ok (.iaload, 1) := by decide +kernel
theorem dX10_nurse_83 : decode cX10_nurse 83 = .ok (.iload_n 1, 1) := by decide +kernel
theorem dX10_nurse_84 : decode cX10_nurse 84 = .ok (.if_icmp .ne 7, 3) := by decide +kernel
theorem dX10_nurse_87 : decode cX10_nurse 87 = .ok (.iconst 1, 1) := by decide +kernel
theorem dX10_nurse_88 : decode cX10_nurse 88 = .ok (.goto 4, 3) := by decide +kernel
theorem dX10_nurse_91 : decode cX10_nurse 91 = .ok (.iconst 0, 1) := by decide +kernel
theorem dX10_nurse_92 : decode cX10_nurse 92 = .ok (.iadd, 1) := by decide +kernel
theorem dX10_nurse_93 : decode cX10_nurse 93 = .ok (.istore_n 3, 1) := by decide +kernel
theorem dX10_nurse_94 : decode cX10_nurse 94 = .ok (.iinc 4 1, 3) := by decide +kernel
theorem dX10_nurse_97 : decode cX10_nurse 97 = .ok (.goto (-43), 3) := by decide +kernel
theorem dX10_nurse_100 : decode cX10_nurse 100 = .ok (.iload_n 3, 1) := by decide +kernel
theorem dX10_nurse_101 : decode cX10_nurse 101 = .ok (.ireturn, 1) := by decide +kernel
theorem dX10_heldBy_0 : decode cX10_heldBy 0 = .ok (.iconst 0, 1) := by decide +kernel
theorem dX10_heldBy_1 : decode cX10_heldBy 1 = .ok (.istore_n 2, 1) := by decide +kernel
theorem dX10_heldBy_2 : decode cX10_heldBy 2 = .ok (.iconst 0, 1) := by decide +kernel
theorem dX10_heldBy_3 : decode cX10_heldBy 3 = .ok (.istore_n 3, 1) := by decide +kernel
theorem dX10_heldBy_4 : decode cX10_heldBy 4 = .ok (.iload_n 3, 1) := by decide +kernel
theorem dX10_heldBy_5 : decode cX10_heldBy 5 = .ok (.aload_n 0, 1) := by decide +kernel
theorem dX10_heldBy_6 : decode cX10_heldBy 6 = .ok (.getfield 13, 3) := by decide +kernel
theorem dX10_heldBy_9 : decode cX10_heldBy 9 = .ok (.iconst 1, 1) := by decide +kernel
theorem dX10_heldBy_10 : decode cX10_heldBy 10 = .ok (.iaload, 1) := by decide +kernel
theorem dX10_heldBy_11 : decode cX10_heldBy 11 = .ok (.if_icmp .ge 29, 3) := by decide +kernel
theorem dX10_heldBy_14 : decode cX10_heldBy 14 = .ok (.iload_n 2, 1) := by decide +kernel
theorem dX10_heldBy_15 : decode cX10_heldBy 15 = .ok (.aload_n 0, 1) := by decide +kernel
theorem dX10_heldBy_16 : decode cX10_heldBy 16 = .ok (.iconst 0, 1) := by decide +kernel
theorem dX10_heldBy_17 : decode cX10_heldBy 17 = .ok (.iload_n 1, 1) := by decide +kernel
theorem dX10_heldBy_18 : decode cX10_heldBy 18 = .ok (.iload_n 3, 1) := by decide +kernel
theorem dX10_heldBy_19 : decode cX10_heldBy 19 = .ok (.invokevirtual 364, 3) := by decide +kernel
theorem dX10_heldBy_22 : decode cX10_heldBy 22 = .ok (.ifCond .eq 9, 3) := by decide +kernel
theorem dX10_heldBy_25 : decode cX10_heldBy 25 = .ok (.iconst 1, 1) := by decide +kernel
theorem dX10_heldBy_26 : decode cX10_heldBy 26 = .ok (.iload_n 3, 1) := by decide +kernel
theorem dX10_heldBy_27 : decode cX10_heldBy 27 = .ok (.ishl, 1) := by decide +kernel
theorem dX10_heldBy_28 : decode cX10_heldBy 28 = .ok (.goto 4, 3) := by decide +kernel
theorem dX10_heldBy_31 : decode cX10_heldBy 31 = .ok (.iconst 0, 1) := by decide +kernel
theorem dX10_heldBy_32 : decode cX10_heldBy 32 = .ok (.ior, 1) := by decide +kernel
theorem dX10_heldBy_33 : decode cX10_heldBy 33 = .ok (.istore_n 2, 1) := by decide +kernel
theorem dX10_heldBy_34 : decode cX10_heldBy 34 = .ok (.iinc 3 1, 3) := by decide +kernel
theorem dX10_heldBy_37 : decode cX10_heldBy 37 = .ok (.goto (-33), 3) := by decide +kernel
theorem dX10_heldBy_40 : decode cX10_heldBy 40 = .ok (.iload_n 2, 1) := by decide +kernel
theorem dX10_heldBy_41 : decode cX10_heldBy 41 = .ok (.ireturn, 1) := by decide +kernel
theorem dX10_sumOf_0 : decode cX10_sumOf 0 = .ok (.iconst 0, 1) := by decide +kernel
theorem dX10_sumOf_1 : decode cX10_sumOf 1 = .ok (.istore_n 3, 1) := by decide +kernel
theorem dX10_sumOf_2 : decode cX10_sumOf 2 = .ok (.iconst 0, 1) := by decide +kernel
theorem dX10_sumOf_3 : decode cX10_sumOf 3 = .ok (.istore 4, 2) := by decide +kernel
theorem dX10_sumOf_5 : decode cX10_sumOf 5 = .ok (.iload 4, 2) := by decide +kernel
theorem dX10_sumOf_7 : decode cX10_sumOf 7 = .ok (.aload_n 0, 1) := by decide +kernel
theorem dX10_sumOf_8 : decode cX10_sumOf 8 = .ok (.getfield 13, 3) := by decide +kernel
theorem dX10_sumOf_11 : decode cX10_sumOf 11 = .ok (.iconst 1, 1) := by decide +kernel
theorem dX10_sumOf_12 : decode cX10_sumOf 12 = .ok (.iaload, 1) := by decide +kernel
theorem dX10_sumOf_13 : decode cX10_sumOf 13 = .ok (.if_icmp .ge 30, 3) := by decide +kernel
theorem dX10_sumOf_16 : decode cX10_sumOf 16 = .ok (.iload_n 3, 1) := by decide +kernel
theorem dX10_sumOf_17 : decode cX10_sumOf 17 = .ok (.iload_n 2, 1) := by decide +kernel
theorem dX10_sumOf_18 : decode cX10_sumOf 18 = .ok (.iload 4, 2) := by decide +kernel
theorem dX10_sumOf_20 : decode cX10_sumOf 20 = .ok (.ishr, 1) := by decide +kernel
theorem dX10_sumOf_21 : decode cX10_sumOf 21 = .ok (.iconst 1, 1) := by decide +kernel
theorem dX10_sumOf_22 : decode cX10_sumOf 22 = .ok (.iand, 1) := by decide +kernel
theorem dX10_sumOf_23 : decode cX10_sumOf 23 = .ok (.iconst 1, 1) := by decide +kernel
theorem dX10_sumOf_24 : decode cX10_sumOf 24 = .ok (.if_icmp .ne 10, 3) := by decide +kernel
theorem dX10_sumOf_27 : decode cX10_sumOf 27 = .ok (.aload_n 1, 1) := by decide +kernel
theorem dX10_sumOf_28 : decode cX10_sumOf 28 = .ok (.iload 4, 2) := by decide +kernel
theorem dX10_sumOf_30 : decode cX10_sumOf 30 = .ok (.iaload, 1) := by decide +kernel
theorem dX10_sumOf_31 : decode cX10_sumOf 31 = .ok (.goto 4, 3) := by decide +kernel
theorem dX10_sumOf_34 : decode cX10_sumOf 34 = .ok (.iconst 0, 1) := by decide +kernel
theorem dX10_sumOf_35 : decode cX10_sumOf 35 = .ok (.iadd, 1) := by decide +kernel
theorem dX10_sumOf_36 : decode cX10_sumOf 36 = .ok (.istore_n 3, 1) := by decide +kernel
theorem dX10_sumOf_37 : decode cX10_sumOf 37 = .ok (.iinc 4 1, 3) := by decide +kernel
theorem dX10_sumOf_40 : decode cX10_sumOf 40 = .ok (.goto (-35), 3) := by decide +kernel
theorem dX10_sumOf_43 : decode cX10_sumOf 43 = .ok (.iload_n 3, 1) := by decide +kernel
theorem dX10_sumOf_44 : decode cX10_sumOf 44 = .ok (.ireturn, 1) := by decide +kernel
theorem dX10_bitsOf_0 : decode cX10_bitsOf 0 = .ok (.iconst 0, 1) := by decide +kernel
theorem dX10_bitsOf_1 : decode cX10_bitsOf 1 = .ok (.istore_n 1, 1) := by decide +kernel
theorem dX10_bitsOf_2 : decode cX10_bitsOf 2 = .ok (.iconst 0, 1) := by decide +kernel
theorem dX10_bitsOf_3 : decode cX10_bitsOf 3 = .ok (.istore_n 2, 1) := by decide +kernel
theorem dX10_bitsOf_4 : decode cX10_bitsOf 4 = .ok (.iload_n 2, 1) := by decide +kernel
theorem dX10_bitsOf_5 : decode cX10_bitsOf 5 = .ok (.bipush 10, 2) := by decide +kernel
theorem dX10_bitsOf_7 : decode cX10_bitsOf 7 = .ok (.if_icmp .ge 17, 3) := by decide +kernel
theorem dX10_bitsOf_10 : decode cX10_bitsOf 10 = .ok (.iload_n 1, 1) := by decide +kernel
theorem dX10_bitsOf_11 : decode cX10_bitsOf 11 = .ok (.iload_n 0, 1) := by decide +kernel
theorem dX10_bitsOf_12 : decode cX10_bitsOf 12 = .ok (.iload_n 2, 1) := by decide +kernel
theorem dX10_bitsOf_13 : decode cX10_bitsOf 13 = .ok (.ishr, 1) := by decide +kernel
theorem dX10_bitsOf_14 : decode cX10_bitsOf 14 = .ok (.iconst 1, 1) := by decide +kernel
theorem dX10_bitsOf_15 : decode cX10_bitsOf 15 = .ok (.iand, 1) := by decide +kernel
theorem dX10_bitsOf_16 : decode cX10_bitsOf 16 = .ok (.iadd, 1) := by decide +kernel
theorem dX10_bitsOf_17 : decode cX10_bitsOf 17 = .ok (.istore_n 1, 1) := by decide +kernel
theorem dX10_bitsOf_18 : decode cX10_bitsOf 18 = .ok (.iinc 2 1, 3) := by decide +kernel
theorem dX10_bitsOf_21 : decode cX10_bitsOf 21 = .ok (.goto (-17), 3) := by decide +kernel
theorem dX10_bitsOf_24 : decode cX10_bitsOf 24 = .ok (.iload_n 1, 1) := by decide +kernel
theorem dX10_bitsOf_25 : decode cX10_bitsOf 25 = .ok (.ireturn, 1) := by decide +kernel
theorem dX10_city_0 : decode cX10_city 0 = .ok (.aload_n 0, 1) := by decide +kernel
theorem dX10_city_1 : decode cX10_city 1 = .ok (.iconst 0, 1) := by decide +kernel
theorem dX10_city_2 : decode cX10_city 2 = .ok (.putfield 124, 3) := by decide +kernel
theorem dX10_city_5 : decode cX10_city 5 = .ok (.iload_n 1, 1) := by decide +kernel
theorem dX10_city_6 : decode cX10_city 6 = .ok (.invokestatic 403, 3) := by decide +kernel
theorem dX10_city_9 : decode cX10_city 9 = .ok (.ifCond .ne 5, 3) := by decide +kernel
theorem dX10_city_12 : decode cX10_city 12 = .ok (.iconst (-1), 1) := by decide +kernel
theorem dX10_city_13 : decode cX10_city 13 = .ok (.ireturn, 1) := by decide +kernel
theorem dX10_city_14 : decode cX10_city 14 = .ok (.iload_n 2, 1) := by decide +kernel
theorem dX10_city_15 : decode cX10_city 15 = .ok (.tableswitch 77 0 4 #[33, 40, 47, 53, 61], 33) := by decide +kernel
theorem dX10_city_48 : decode cX10_city 48 = .ok (.aload_n 0, 1) := by decide +kernel
theorem dX10_city_49 : decode cX10_city 49 = .ok (.getfield 69, 3) := by decide +kernel
theorem dX10_city_52 : decode cX10_city 52 = .ok (.iload_n 1, 1) := by decide +kernel
theorem dX10_city_53 : decode cX10_city 53 = .ok (.iaload, 1) := by decide +kernel
theorem dX10_city_54 : decode cX10_city 54 = .ok (.ireturn, 1) := by decide +kernel
theorem dX10_city_55 : decode cX10_city 55 = .ok (.aload_n 0, 1) := by decide +kernel
theorem dX10_city_56 : decode cX10_city 56 = .ok (.getfield 72, 3) := by decide +kernel
theorem dX10_city_59 : decode cX10_city 59 = .ok (.iload_n 1, 1) := by decide +kernel
theorem dX10_city_60 : decode cX10_city 60 = .ok (.iaload, 1) := by decide +kernel
theorem dX10_city_61 : decode cX10_city 61 = .ok (.ireturn, 1) := by decide +kernel
theorem dX10_city_62 : decode cX10_city 62 = .ok (.aload_n 0, 1) := by decide +kernel
theorem dX10_city_63 : decode cX10_city 63 = .ok (.iload_n 1, 1) := by decide +kernel
theorem dX10_city_64 : decode cX10_city 64 = .ok (.invokevirtual 406, 3) := by decide +kernel
theorem dX10_city_67 : decode cX10_city 67 = .ok (.ireturn, 1) := by decide +kernel
theorem dX10_city_68 : decode cX10_city 68 = .ok (.aload_n 0, 1) := by decide +kernel
theorem dX10_city_69 : decode cX10_city 69 = .ok (.iconst 1, 1) := by decide +kernel
theorem dX10_city_70 : decode cX10_city 70 = .ok (.iload_n 1, 1) := by decide +kernel
theorem dX10_city_71 : decode cX10_city 71 = .ok (.isub, 1) := by decide +kernel
theorem dX10_city_72 : decode cX10_city 72 = .ok (.invokevirtual 406, 3) := by decide +kernel
theorem dX10_city_75 : decode cX10_city 75 = .ok (.ireturn, 1) := by decide +kernel
theorem dX10_city_76 : decode cX10_city 76 = .ok (.aload_n 0, 1) := by decide +kernel
theorem dX10_city_77 : decode cX10_city 77 = .ok (.aload_n 0, 1) := by decide +kernel
theorem dX10_city_78 : decode cX10_city 78 = .ok (.getfield 31, 3) := by decide +kernel
theorem dX10_city_81 : decode cX10_city 81 = .ok (.aload_n 0, 1) := by decide +kernel
theorem dX10_city_82 : decode cX10_city 82 = .ok (.iconst 1, 1) := by decide +kernel
theorem dX10_city_83 : decode cX10_city 83 = .ok (.iload_n 1, 1) := by decide +kernel
theorem dX10_city_84 : decode cX10_city 84 = .ok (.isub, 1) := by decide +kernel
theorem dX10_city_85 : decode cX10_city 85 = .ok (.invokevirtual 406, 3) := by decide +kernel
theorem dX10_city_88 : decode cX10_city 88 = .ok (.invokevirtual 409, 3) := by decide +kernel
theorem dX10_city_91 : decode cX10_city 91 = .ok (.ireturn, 1) := by decide +kernel
theorem dX10_city_92 : decode cX10_city 92 = .ok (.iconst (-1), 1) := by decide +kernel
theorem dX10_city_93 : decode cX10_city 93 = .ok (.ireturn, 1) := by decide +kernel
theorem dX10_moths_0 : decode cX10_moths 0 = .ok (.aload_n 0, 1) := by decide +kernel
theorem dX10_moths_1 : decode cX10_moths 1 = .ok (.iconst 0, 1) := by decide +kernel
theorem dX10_moths_2 : decode cX10_moths 2 = .ok (.putfield 124, 3) := by decide +kernel
theorem dX10_moths_5 : decode cX10_moths 5 = .ok (.aload_n 0, 1) := by decide +kernel
theorem dX10_moths_6 : decode cX10_moths 6 = .ok (.iload_n 1, 1) := by decide +kernel
theorem dX10_moths_7 : decode cX10_moths 7 = .ok (.invokevirtual 397, 3) := by decide +kernel
theorem dX10_moths_10 : decode cX10_moths 10 = .ok (.ifCond .eq 27, 3) := by decide +kernel
theorem dX10_moths_13 : decode cX10_moths 13 = .ok (.aload_n 0, 1) := by decide +kernel
theorem dX10_moths_14 : decode cX10_moths 14 = .ok (.iconst 0, 1) := by decide +kernel
theorem dX10_moths_15 : decode cX10_moths 15 = .ok (.iload_n 1, 1) := by decide +kernel
theorem dX10_moths_16 : decode cX10_moths 16 = .ok (.invokevirtual 310, 3) := by decide +kernel
theorem dX10_moths_19 : decode cX10_moths 19 = .ok (.ifCond .eq 18, 3) := by decide +kernel
theorem dX10_moths_22 : decode cX10_moths 22 = .ok (.aload_n 0, 1) := by decide +kernel
theorem dX10_moths_23 : decode cX10_moths 23 = .ok (.iconst 0, 1) := by decide +kernel
theorem dX10_moths_24 : decode cX10_moths 24 = .ok (.iload_n 1, 1) := by decide +kernel
theorem dX10_moths_25 : decode cX10_moths 25 = .ok (.aload_n 0, 1) := by decide +kernel
theorem dX10_moths_26 : decode cX10_moths 26 = .ok (.getfield 75, 3) := by decide +kernel
theorem dX10_moths_29 : decode cX10_moths 29 = .ok (.iload_n 1, 1) := by decide +kernel
theorem dX10_moths_30 : decode cX10_moths 30 = .ok (.iaload, 1) := by decide +kernel
theorem dX10_moths_31 : decode cX10_moths 31 = .ok (.invokevirtual 353, 3) := by decide +kernel
theorem dX10_moths_34 : decode cX10_moths 34 = .ok (.goto 4, 3) := by decide +kernel
theorem dX10_moths_37 : decode cX10_moths 37 = .ok (.iconst (-1), 1) := by decide +kernel
theorem dX10_moths_38 : decode cX10_moths 38 = .ok (.ireturn, 1) := by decide +kernel
theorem dX10_law_0 : decode cX10_law 0 = .ok (.aload_n 0, 1) := by decide +kernel
theorem dX10_law_1 : decode cX10_law 1 = .ok (.iconst 0, 1) := by decide +kernel
theorem dX10_law_2 : decode cX10_law 2 = .ok (.putfield 124, 3) := by decide +kernel
theorem dX10_law_5 : decode cX10_law 5 = .ok (.iload_n 1, 1) := by decide +kernel
theorem dX10_law_6 : decode cX10_law 6 = .ok (.ifCond .lt 39, 3) := by decide +kernel
theorem dX10_law_9 : decode cX10_law 9 = .ok (.iload_n 1, 1) := by decide +kernel
theorem dX10_law_10 : decode cX10_law 10 = .ok (.iconst 2, 1) := by decide +kernel
theorem dX10_law_11 : decode cX10_law 11 = .ok (.if_icmp .gt 34, 3) := by decide +kernel
theorem dX10_law_14 : decode cX10_law 14 = .ok (.aload_n 0, 1) := by decide +kernel
theorem dX10_law_15 : decode cX10_law 15 = .ok (.iload_n 1, 1) := by decide +kernel
theorem dX10_law_16 : decode cX10_law 16 = .ok (.invokevirtual 326, 3) := by decide +kernel
theorem dX10_law_19 : decode cX10_law 19 = .ok (.ifCond .eq 26, 3) := by decide +kernel
theorem dX10_law_22 : decode cX10_law 22 = .ok (.iload_n 1, 1) := by decide +kernel
theorem dX10_law_23 : decode cX10_law 23 = .ok (.iconst 2, 1) := by decide +kernel
theorem dX10_law_24 : decode cX10_law 24 = .ok (.if_icmp .ne 13, 3) := by decide +kernel
theorem dX10_law_27 : decode cX10_law 27 = .ok (.iload_n 2, 1) := by decide +kernel
theorem dX10_law_28 : decode cX10_law 28 = .ok (.invokestatic 403, 3) := by decide +kernel
theorem dX10_law_31 : decode cX10_law 31 = .ok (.ifCond .eq 14, 3) := by decide +kernel
theorem dX10_law_34 : decode cX10_law 34 = .ok (.goto 15, 3) := by decide +kernel
theorem dX10_law_37 : decode cX10_law 37 = .ok (.aload_n 0, 1) := by decide +kernel
theorem dX10_law_38 : decode cX10_law 38 = .ok (.iload_n 2, 1) := by decide +kernel
theorem dX10_law_39 : decode cX10_law 39 = .ok (.invokevirtual 397, 3) := by decide +kernel
theorem dX10_law_42 : decode cX10_law 42 = .ok (.ifCond .ne 7, 3) := by decide +kernel
theorem dX10_law_45 : decode cX10_law 45 = .ok (.ldc2_w 415, 3) := by decide +kernel
theorem dX10_law_48 : decode cX10_law 48 = .ok (.lreturn, 1) := by decide +kernel
theorem dX10_law_49 : decode cX10_law 49 = .ok (.iload_n 1, 1) := by decide +kernel
theorem dX10_law_50 : decode cX10_law 50 = .ok (.iconst 2, 1) := by decide +kernel
theorem dX10_law_51 : decode cX10_law 51 = .ok (.if_icmp .ne 12, 3) := by decide +kernel
theorem dX10_law_54 : decode cX10_law 54 = .ok (.aload_n 0, 1) := by decide +kernel
theorem dX10_law_55 : decode cX10_law 55 = .ok (.iconst 0, 1) := by decide +kernel
theorem dX10_law_56 : decode cX10_law 56 = .ok (.iload_n 2, 1) := by decide +kernel
theorem dX10_law_57 : decode cX10_law 57 = .ok (.invokevirtual 384, 3) := by decide +kernel
theorem dX10_law_60 : decode cX10_law 60 = .ok (.goto 15, 3) := by decide +kernel
theorem dX10_law_63 : decode cX10_law 63 = .ok (.aload_n 0, 1) := by decide +kernel
theorem dX10_law_64 : decode cX10_law 64 = .ok (.iconst 0, 1) := by decide +kernel
theorem dX10_law_65 : decode cX10_law 65 = .ok (.iload_n 2, 1) := by decide +kernel
theorem dX10_law_66 : decode cX10_law 66 = .ok (.aload_n 0, 1) := by decide +kernel
theorem dX10_law_67 : decode cX10_law 67 = .ok (.getfield 75, 3) := by decide +kernel
theorem dX10_law_70 : decode cX10_law 70 = .ok (.iload_n 2, 1) := by decide +kernel
theorem dX10_law_71 : decode cX10_law 71 = .ok (.iaload, 1) := by decide +kernel
theorem dX10_law_72 : decode cX10_law 72 = .ok (.invokevirtual 339, 3) := by decide +kernel
theorem dX10_law_75 : decode cX10_law 75 = .ok (.aload_n 0, 1) := by decide +kernel
theorem dX10_law_76 : decode cX10_law 76 = .ok (.iload_n 1, 1) := by decide +kernel
theorem dX10_law_77 : decode cX10_law 77 = .ok (.invokevirtual 329, 3) := by decide +kernel
theorem dX10_law_80 : decode cX10_law 80 = .ok (.ifCond .eq 12, 3) := by decide +kernel
theorem dX10_law_83 : decode cX10_law 83 = .ok (.aload_n 0, 1) := by decide +kernel
theorem dX10_law_84 : decode cX10_law 84 = .ok (.getfield 57, 3) := by decide +kernel
theorem dX10_law_87 : decode cX10_law 87 = .ok (.iconst 0, 1) := by decide +kernel
theorem dX10_law_88 : decode cX10_law 88 = .ok (.laload, 1) := by decide +kernel
theorem dX10_law_89 : decode cX10_law 89 = .ok (.goto 6, 3) := by decide +kernel
theorem dX10_law_92 : decode cX10_law 92 = .ok (.ldc2_w 415, 3) := by decide +kernel
theorem dX10_law_95 : decode cX10_law 95 = .ok (.lreturn, 1) := by decide +kernel
theorem dX10_keepNow_0 : decode cX10_keepNow 0 = .ok (.aload_n 0, 1) := by decide +kernel
theorem dX10_keepNow_1 : decode cX10_keepNow 1 = .ok (.getfield 284, 3) := by decide +kernel
theorem dX10_keepNow_4 : decode cX10_keepNow 4 = .ok (.bipush 20, 2) := by decide +kernel
theorem dX10_keepNow_6 : decode cX10_keepNow 6 = .ok (.if_icmp .ne 39, 3) := by decide +kernel
theorem dX10_keepNow_9 : decode cX10_keepNow 9 = .ok (.iconst 1, 1) := by decide +kernel
theorem dX10_keepNow_10 : decode cX10_keepNow 10 = .ok (.istore_n 1, 1) := by decide +kernel
theorem dX10_keepNow_11 : decode cX10_keepNow 11 = .ok (.iload_n 1, 1) := by decide +kernel
theorem dX10_keepNow_12 : decode cX10_keepNow 12 = .ok (.bipush 20, 2) := by decide +kernel
theorem dX10_keepNow_14 : decode cX10_keepNow 14 = .ok (.if_icmp .ge 21, 3) := by decide +kernel
theorem dX10_keepNow_17 : decode cX10_keepNow 17 = .ok (.aload_n 0, 1) := by decide +kernel
