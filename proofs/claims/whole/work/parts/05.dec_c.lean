theorem dX11_init_0 : decode cX11_init 0 = .ok (.aload_n 0, 1) := by decide +kernel
theorem dX11_init_1 : decode cX11_init 1 = .ok (.invokespecial 1, 3) := by decide +kernel
theorem dX11_init_4 : decode cX11_init 4 = .ok (.aload_n 0, 1) := by decide +kernel
theorem dX11_init_5 : decode cX11_init 5 = .ok (.bipush 7, 2) := by decide +kernel
theorem dX11_init_7 : decode cX11_init 7 = .ok (.newarray .int, 2) := by decide +kernel
theorem dX11_init_9 : decode cX11_init 9 = .ok (.putfield 7, 3) := by decide +kernel
theorem dX11_init_12 : decode cX11_init 12 = .ok (.aload_n 0, 1) := by decide +kernel
theorem dX11_init_13 : decode cX11_init 13 = .ok (.bipush 7, 2) := by decide +kernel
theorem dX11_init_15 : decode cX11_init 15 = .ok (.newarray .int, 2) := by decide +kernel
theorem dX11_init_17 : decode cX11_init 17 = .ok (.putfield 13, 3) := by decide +kernel
theorem dX11_init_20 : decode cX11_init 20 = .ok (.aload_n 0, 1) := by decide +kernel
theorem dX11_init_21 : decode cX11_init 21 = .ok (.bipush 7, 2) := by decide +kernel
theorem dX11_init_23 : decode cX11_init 23 = .ok (.newarray .int, 2) := by decide +kernel
theorem dX11_init_25 : decode cX11_init 25 = .ok (.putfield 16, 3) := by decide +kernel
theorem dX11_init_28 : decode cX11_init 28 = .ok (.aload_n 0, 1) := by decide +kernel
theorem dX11_init_29 : decode cX11_init 29 = .ok (.bipush 7, 2) := by decide +kernel
theorem dX11_init_31 : decode cX11_init 31 = .ok (.newarray .int, 2) := by decide +kernel
theorem dX11_init_33 : decode cX11_init 33 = .ok (.putfield 19, 3) := by decide +kernel
theorem dX11_init_36 : decode cX11_init 36 = .ok (.aload_n 0, 1) := by decide +kernel
theorem dX11_init_37 : decode cX11_init 37 = .ok (.iconst 4, 1) := by decide +kernel
theorem dX11_init_38 : decode cX11_init 38 = .ok (.newarray .int, 2) := by decide +kernel
theorem dX11_init_40 : decode cX11_init 40 = .ok (.putfield 22, 3) := by decide +kernel
theorem dX11_init_43 : decode cX11_init 43 = .ok (.aload_n 0, 1) := by decide +kernel
theorem dX11_init_44 : decode cX11_init 44 = .ok (.bipush 29, 2) := by decide +kernel
theorem dX11_init_46 : decode cX11_init 46 = .ok (.newarray .int, 2) := by decide +kernel
theorem dX11_init_48 : decode cX11_init 48 = .ok (.putfield 25, 3) := by decide +kernel
theorem dX11_init_51 : decode cX11_init 51 = .ok (.aload_n 0, 1) := by decide +kernel
theorem dX11_init_52 : decode cX11_init 52 = .ok (.sipush 240, 3) := by decide +kernel
theorem dX11_init_55 : decode cX11_init 55 = .ok (.newarray .int, 2) := by decide +kernel
theorem dX11_init_57 : decode cX11_init 57 = .ok (.putfield 28, 3) := by decide +kernel
theorem dX11_init_60 : decode cX11_init 60 = .ok (.aload_n 0, 1) := by decide +kernel
theorem dX11_init_61 : decode cX11_init 61 = .ok (.iconst (-1), 1) := by decide +kernel
theorem dX11_init_62 : decode cX11_init 62 = .ok (.putfield 31, 3) := by decide +kernel
theorem dX11_init_65 : decode cX11_init 65 = .ok (.aload_n 0, 1) := by decide +kernel
theorem dX11_init_66 : decode cX11_init 66 = .ok (.bipush 7, 2) := by decide +kernel
theorem dX11_init_68 : decode cX11_init 68 = .ok (.newarray .int, 2) := by decide +kernel
theorem dX11_init_70 : decode cX11_init 70 = .ok (.putfield 35, 3) := by decide +kernel
theorem dX11_init_73 : decode cX11_init 73 = .ok (.aload_n 0, 1) := by decide +kernel
theorem dX11_init_74 : decode cX11_init 74 = .ok (.bipush 7, 2) := by decide +kernel
theorem dX11_init_76 : decode cX11_init 76 = .ok (.newarray .int, 2) := by decide +kernel
theorem dX11_init_78 : decode cX11_init 78 = .ok (.putfield 38, 3) := by decide +kernel
theorem dX11_init_81 : decode cX11_init 81 = .ok (.aload_n 0, 1) := by decide +kernel
theorem dX11_init_82 : decode cX11_init 82 = .ok (.bipush 7, 2) := by decide +kernel
theorem dX11_init_84 : decode cX11_init 84 = .ok (.newarray .int, 2) := by decide +kernel
theorem dX11_init_86 : decode cX11_init 86 = .ok (.putfield 41, 3) := by decide +kernel
theorem dX11_init_89 : decode cX11_init 89 = .ok (.aload_n 0, 1) := by decide +kernel
theorem dX11_init_90 : decode cX11_init 90 = .ok (.bipush 7, 2) := by decide +kernel
theorem dX11_init_92 : decode cX11_init 92 = .ok (.newarray .int, 2) := by decide +kernel
theorem dX11_init_94 : decode cX11_init 94 = .ok (.putfield 44, 3) := by decide +kernel
theorem dX11_init_97 : decode cX11_init 97 = .ok (.aload_n 0, 1) := by decide +kernel
theorem dX11_init_98 : decode cX11_init 98 = .ok (.iconst 4, 1) := by decide +kernel
theorem dX11_init_99 : decode cX11_init 99 = .ok (.newarray .int, 2) := by decide +kernel
theorem dX11_init_101 : decode cX11_init 101 = .ok (.putfield 47, 3) := by decide +kernel
theorem dX11_init_104 : decode cX11_init 104 = .ok (.aload_n 0, 1) := by decide +kernel
theorem dX11_init_105 : decode cX11_init 105 = .ok (.sipush 464, 3) := by decide +kernel
theorem dX11_init_108 : decode cX11_init 108 = .ok (.newarray .int, 2) := by decide +kernel
theorem dX11_init_110 : decode cX11_init 110 = .ok (.putfield 50, 3) := by decide +kernel
theorem dX11_init_113 : decode cX11_init 113 = .ok (.aload_n 0, 1) := by decide +kernel
theorem dX11_init_114 : decode cX11_init 114 = .ok (.bipush 29, 2) := by decide +kernel
theorem dX11_init_116 : decode cX11_init 116 = .ok (.newarray .int, 2) := by decide +kernel
theorem dX11_init_118 : decode cX11_init 118 = .ok (.putfield 53, 3) := by decide +kernel
theorem dX11_init_121 : decode cX11_init 121 = .ok (.aload_n 0, 1) := by decide +kernel
theorem dX11_init_122 : decode cX11_init 122 = .ok (.bipush 70, 2) := by decide +kernel
theorem dX11_init_124 : decode cX11_init 124 = .ok (.newarray .int, 2) := by decide +kernel
theorem dX11_init_126 : decode cX11_init 126 = .ok (.putfield 56, 3) := by decide +kernel
theorem dX11_init_129 : decode cX11_init 129 = .ok (.aload_n 0, 1) := by decide +kernel
theorem dX11_init_130 : decode cX11_init 130 = .ok (.bipush 6, 2) := by decide +kernel
theorem dX11_init_132 : decode cX11_init 132 = .ok (.newarray .int, 2) := by decide +kernel
theorem dX11_init_134 : decode cX11_init 134 = .ok (.putfield 59, 3) := by decide +kernel
theorem dX11_init_137 : decode cX11_init 137 = .ok (.aload_n 0, 1) := by decide +kernel
theorem dX11_init_138 : decode cX11_init 138 = .ok (.bipush 6, 2) := by decide +kernel
theorem dX11_init_140 : decode cX11_init 140 = .ok (.newarray .int, 2) := by decide +kernel
theorem dX11_init_142 : decode cX11_init 142 = .ok (.putfield 62, 3) := by decide +kernel
theorem dX11_init_145 : decode cX11_init 145 = .ok (.aload_n 0, 1) := by decide +kernel
theorem dX11_init_146 : decode cX11_init 146 = .ok (.bipush 15, 2) := by decide +kernel
theorem dX11_init_148 : decode cX11_init 148 = .ok (.newarray .int, 2) := by decide +kernel
theorem dX11_init_150 : decode cX11_init 150 = .ok (.putfield 65, 3) := by decide +kernel
theorem dX11_init_153 : decode cX11_init 153 = .ok (.aload_n 0, 1) := by decide +kernel
theorem dX11_init_154 : decode cX11_init 154 = .ok (.bipush 15, 2) := by decide +kernel
theorem dX11_init_156 : decode cX11_init 156 = .ok (.newarray .int, 2) := by decide +kernel
theorem dX11_init_158 : decode cX11_init 158 = .ok (.putfield 68, 3) := by decide +kernel
theorem dX11_init_161 : decode cX11_init 161 = .ok (.aload_n 0, 1) := by decide +kernel
theorem dX11_init_162 : decode cX11_init 162 = .ok (.bipush 60, 2) := by decide +kernel
theorem dX11_init_164 : decode cX11_init 164 = .ok (.newarray .int, 2) := by decide +kernel
theorem dX11_init_166 : decode cX11_init 166 = .ok (.putfield 71, 3) := by decide +kernel
theorem dX11_init_169 : decode cX11_init 169 = .ok (.aload_n 0, 1) := by decide +kernel
theorem dX11_init_170 : decode cX11_init 170 = .ok (.iconst 2, 1) := by decide +kernel
theorem dX11_init_171 : decode cX11_init 171 = .ok (.newarray .boolean, 2) := by decide +kernel
theorem dX11_init_173 : decode cX11_init 173 = .ok (.putfield 74, 3) := by decide +kernel
theorem dX11_init_176 : decode cX11_init 176 = .ok (.aload_n 0, 1) := by decide +kernel
theorem dX11_init_177 : decode cX11_init 177 = .ok (.iconst 0, 1) := by decide +kernel
theorem dX11_init_178 : decode cX11_init 178 = .ok (.putfield 78, 3) := by decide +kernel
theorem dX11_init_181 : decode cX11_init 181 = .ok (.return_, 1) := by decide +kernel
theorem dX11_in_0 : decode cX11_in 0 = .ok (.lload_n 0, 1) := by decide +kernel
theorem dX11_in_1 : decode cX11_in 1 = .ok (.lload_n 2, 1) := by decide +kernel
theorem dX11_in_2 : decode cX11_in 2 = .ok (.lcmp, 1) := by decide +kernel
theorem dX11_in_3 : decode cX11_in 3 = .ok (.ifCond .lt 14, 3) := by decide +kernel
theorem dX11_in_6 : decode cX11_in 6 = .ok (.lload_n 0, 1) := by decide +kernel
theorem dX11_in_7 : decode cX11_in 7 = .ok (.lload 4, 2) := by decide +kernel
theorem dX11_in_9 : decode cX11_in 9 = .ok (.lcmp, 1) := by decide +kernel
theorem dX11_in_10 : decode cX11_in 10 = .ok (.ifCond .gt 7, 3) := by decide +kernel
theorem dX11_in_13 : decode cX11_in 13 = .ok (.iconst 1, 1) := by decide +kernel
theorem dX11_in_14 : decode cX11_in 14 = .ok (.goto 4, 3) := by decide +kernel
theorem dX11_in_17 : decode cX11_in 17 = .ok (.iconst 0, 1) := by decide +kernel
theorem dX11_in_18 : decode cX11_in 18 = .ok (.ireturn, 1) := by decide +kernel
theorem dX11_has_0 : decode cX11_has 0 = .ok (.iload_n 0, 1) := by decide +kernel
theorem dX11_has_1 : decode cX11_has 1 = .ok (.iload_n 1, 1) := by decide +kernel
theorem dX11_has_2 : decode cX11_has 2 = .ok (.ishr, 1) := by decide +kernel
theorem dX11_has_3 : decode cX11_has 3 = .ok (.iconst 1, 1) := by decide +kernel
theorem dX11_has_4 : decode cX11_has 4 = .ok (.iand, 1) := by decide +kernel
theorem dX11_has_5 : decode cX11_has 5 = .ok (.iconst 1, 1) := by decide +kernel
theorem dX11_has_6 : decode cX11_has 6 = .ok (.if_icmp .ne 7, 3) := by decide +kernel
theorem dX11_has_9 : decode cX11_has 9 = .ok (.iconst 1, 1) := by decide +kernel
theorem dX11_has_10 : decode cX11_has 10 = .ok (.goto 4, 3) := by decide +kernel
theorem dX11_has_13 : decode cX11_has 13 = .ok (.iconst 0, 1) := by decide +kernel
theorem dX11_has_14 : decode cX11_has 14 = .ok (.ireturn, 1) := by decide +kernel
theorem dX11_bits_0 : decode cX11_bits 0 = .ok (.iconst 0, 1) := by decide +kernel
theorem dX11_bits_1 : decode cX11_bits 1 = .ok (.istore_n 1, 1) := by decide +kernel
theorem dX11_bits_2 : decode cX11_bits 2 = .ok (.iconst 0, 1) := by decide +kernel
theorem dX11_bits_3 : decode cX11_bits 3 = .ok (.istore_n 2, 1) := by decide +kernel
theorem dX11_bits_4 : decode cX11_bits 4 = .ok (.iload_n 2, 1) := by decide +kernel
theorem dX11_bits_5 : decode cX11_bits 5 = .ok (.bipush 9, 2) := by decide +kernel
theorem dX11_bits_7 : decode cX11_bits 7 = .ok (.if_icmp .ge 17, 3) := by decide +kernel
theorem dX11_bits_10 : decode cX11_bits 10 = .ok (.iload_n 1, 1) := by decide +kernel
theorem dX11_bits_11 : decode cX11_bits 11 = .ok (.iload_n 0, 1) := by decide +kernel
theorem dX11_bits_12 : decode cX11_bits 12 = .ok (.iload_n 2, 1) := by decide +kernel
theorem dX11_bits_13 : decode cX11_bits 13 = .ok (.ishr, 1) := by decide +kernel
theorem dX11_bits_14 : decode cX11_bits 14 = .ok (.iconst 1, 1) := by decide +kernel
theorem dX11_bits_15 : decode cX11_bits 15 = .ok (.iand, 1) := by decide +kernel
theorem dX11_bits_16 : decode cX11_bits 16 = .ok (.iadd, 1) := by decide +kernel
theorem dX11_bits_17 : decode cX11_bits 17 = .ok (.istore_n 1, 1) := by decide +kernel
theorem dX11_bits_18 : decode cX11_bits 18 = .ok (.iinc 2 1, 3) := by decide +kernel
theorem dX11_bits_21 : decode cX11_bits 21 = .ok (.goto (-17), 3) := by decide +kernel
theorem dX11_bits_24 : decode cX11_bits 24 = .ok (.iload_n 1, 1) := by decide +kernel
theorem dX11_bits_25 : decode cX11_bits 25 = .ok (.ireturn, 1) := by decide +kernel
theorem dX11_isSinger_0 : decode cX11_isSinger 0 = .ok (.iload_n 1, 1) := by decide +kernel
theorem dX11_isSinger_1 : decode cX11_isSinger 1 = .ok (.i2l, 1) := by decide +kernel
theorem dX11_isSinger_2 : decode cX11_isSinger 2 = .ok (.lconst 0, 1) := by decide +kernel
theorem dX11_isSinger_3 : decode cX11_isSinger 3 = .ok (.aload_n 0, 1) := by decide +kernel
theorem dX11_isSinger_4 : decode cX11_isSinger 4 = .ok (.getfield 81, 3) := by decide +kernel
theorem dX11_isSinger_7 : decode cX11_isSinger 7 = .ok (.iconst 1, 1) := by decide +kernel
theorem dX11_isSinger_8 : decode cX11_isSinger 8 = .ok (.isub, 1) := by decide +kernel
theorem dX11_isSinger_9 : decode cX11_isSinger 9 = .ok (.i2l, 1) := by decide +kernel
theorem dX11_isSinger_10 : decode cX11_isSinger 10 = .ok (.invokestatic 84, 3) := by decide +kernel
theorem dX11_isSinger_13 : decode cX11_isSinger 13 = .ok (.ireturn, 1) := by decide +kernel
theorem dX11_isPlace_0 : decode cX11_isPlace 0 = .ok (.iload_n 1, 1) := by decide +kernel
theorem dX11_isPlace_1 : decode cX11_isPlace 1 = .ok (.i2l, 1) := by decide +kernel
theorem dX11_isPlace_2 : decode cX11_isPlace 2 = .ok (.lconst 0, 1) := by decide +kernel
theorem dX11_isPlace_3 : decode cX11_isPlace 3 = .ok (.aload_n 0, 1) := by decide +kernel
theorem dX11_isPlace_4 : decode cX11_isPlace 4 = .ok (.getfield 88, 3) := by decide +kernel
theorem dX11_isPlace_7 : decode cX11_isPlace 7 = .ok (.iconst 1, 1) := by decide +kernel
theorem dX11_isPlace_8 : decode cX11_isPlace 8 = .ok (.isub, 1) := by decide +kernel
theorem dX11_isPlace_9 : decode cX11_isPlace 9 = .ok (.i2l, 1) := by decide +kernel
theorem dX11_isPlace_10 : decode cX11_isPlace 10 = .ok (.invokestatic 84, 3) := by decide +kernel
theorem dX11_isPlace_13 : decode cX11_isPlace 13 = .ok (.ireturn, 1) := by decide +kernel
theorem dX11_isSet_0 : decode cX11_isSet 0 = .ok (.iload_n 1, 1) := by decide +kernel
theorem dX11_isSet_1 : decode cX11_isSet 1 = .ok (.i2l, 1) := by decide +kernel
theorem dX11_isSet_2 : decode cX11_isSet 2 = .ok (.lconst 0, 1) := by decide +kernel
theorem dX11_isSet_3 : decode cX11_isSet 3 = .ok (.iconst 1, 1) := by decide +kernel
theorem dX11_isSet_4 : decode cX11_isSet 4 = .ok (.aload_n 0, 1) := by decide +kernel
theorem dX11_isSet_5 : decode cX11_isSet 5 = .ok (.getfield 81, 3) := by decide +kernel
theorem dX11_isSet_8 : decode cX11_isSet 8 = .ok (.ishl, 1) := by decide +kernel
theorem dX11_isSet_9 : decode cX11_isSet 9 = .ok (.iconst 1, 1) := by decide +kernel
theorem dX11_isSet_10 : decode cX11_isSet 10 = .ok (.isub, 1) := by decide +kernel
theorem dX11_isSet_11 : decode cX11_isSet 11 = .ok (.i2l, 1) := by decide +kernel
theorem dX11_isSet_12 : decode cX11_isSet 12 = .ok (.invokestatic 84, 3) := by decide +kernel
theorem dX11_isSet_15 : decode cX11_isSet 15 = .ok (.ireturn, 1) := by decide +kernel
theorem dX11_feed_0 : decode cX11_feed 0 = .ok (.iload_n 1, 1) := by decide +kernel
theorem dX11_feed_1 : decode cX11_feed 1 = .ok (.i2l, 1) := by decide +kernel
theorem dX11_feed_2 : decode cX11_feed 2 = .ok (.lconst 0, 1) := by decide +kernel
theorem dX11_feed_3 : decode cX11_feed 3 = .ok (.ldc2_w 91, 3) := by decide +kernel
theorem dX11_feed_6 : decode cX11_feed 6 = .ok (.invokestatic 84, 3) := by decide +kernel
theorem dX11_feed_9 : decode cX11_feed 9 = .ok (.ifCond .ne 6, 3) := by decide +kernel
theorem dX11_feed_12 : decode cX11_feed 12 = .ok (.ldc 93, 2) := by decide +kernel
theorem dX11_feed_14 : decode cX11_feed 14 = .ok (.ireturn, 1) := by decide +kernel
theorem dX11_feed_15 : decode cX11_feed 15 = .ok (.aload_n 0, 1) := by decide +kernel
theorem dX11_feed_16 : decode cX11_feed 16 = .ok (.getfield 94, 3) := by decide +kernel
theorem dX11_feed_19 : decode cX11_feed 19 = .ok (.sipush 240, 3) := by decide +kernel
theorem dX11_feed_22 : decode cX11_feed 22 = .ok (.if_icmp .ne 6, 3) := by decide +kernel
theorem dX11_feed_25 : decode cX11_feed 25 = .ok (.ldc 97, 2) := by decide +kernel
theorem dX11_feed_27 : decode cX11_feed 27 = .ok (.ireturn, 1) := by decide +kernel
theorem dX11_feed_28 : decode cX11_feed 28 = .ok (.aload_n 0, 1) := by decide +kernel
theorem dX11_feed_29 : decode cX11_feed 29 = .ok (.getfield 28, 3) := by decide +kernel
theorem dX11_feed_32 : decode cX11_feed 32 = .ok (.aload_n 0, 1) := by decide +kernel
theorem dX11_feed_33 : decode cX11_feed 33 = .ok (.getfield 94, 3) := by decide +kernel
theorem dX11_feed_36 : decode cX11_feed 36 = .ok (.iload_n 1, 1) := by decide +kernel
theorem dX11_feed_37 : decode cX11_feed 37 = .ok (.iastore, 1) := by decide +kernel
theorem dX11_feed_38 : decode cX11_feed 38 = .ok (.aload_n 0, 1) := by decide +kernel
theorem dX11_feed_39 : decode cX11_feed 39 = .ok (.dup, 1) := by decide +kernel
theorem dX11_feed_40 : decode cX11_feed 40 = .ok (.getfield 94, 3) := by decide +kernel
theorem dX11_feed_43 : decode cX11_feed 43 = .ok (.iconst 1, 1) := by decide +kernel
theorem dX11_feed_44 : decode cX11_feed 44 = .ok (.iadd, 1) := by decide +kernel
theorem dX11_feed_45 : decode cX11_feed 45 = .ok (.putfield 94, 3) := by decide +kernel
theorem dX11_feed_48 : decode cX11_feed 48 = .ok (.aload_n 0, 1) := by decide +kernel
theorem dX11_feed_49 : decode cX11_feed 49 = .ok (.getfield 94, 3) := by decide +kernel
theorem dX11_feed_52 : decode cX11_feed 52 = .ok (.ireturn, 1) := by decide +kernel
theorem dX11_here_0 : decode cX11_here 0 = .ok (.aload_n 0, 1) := by decide +kernel
theorem dX11_here_1 : decode cX11_here 1 = .ok (.getfield 98, 3) := by decide +kernel
theorem dX11_here_4 : decode cX11_here 4 = .ok (.aload_n 0, 1) := by decide +kernel
theorem dX11_here_5 : decode cX11_here 5 = .ok (.getfield 94, 3) := by decide +kernel
theorem dX11_here_8 : decode cX11_here 8 = .ok (.if_icmp .ge 30, 3) := by decide +kernel
theorem dX11_here_11 : decode cX11_here 11 = .ok (.aload_n 0, 1) := by decide +kernel
theorem dX11_here_12 : decode cX11_here 12 = .ok (.getfield 28, 3) := by decide +kernel
theorem dX11_here_15 : decode cX11_here 15 = .ok (.aload_n 0, 1) := by decide +kernel
theorem dX11_here_16 : decode cX11_here 16 = .ok (.getfield 98, 3) := by decide +kernel
theorem dX11_here_19 : decode cX11_here 19 = .ok (.iaload, 1) := by decide +kernel
theorem dX11_here_20 : decode cX11_here 20 = .ok (.bipush 32, 2) := by decide +kernel
theorem dX11_here_22 : decode cX11_here 22 = .ok (.if_icmp .ne 16, 3) := by decide +kernel
theorem dX11_here_25 : decode cX11_here 25 = .ok (.aload_n 0, 1) := by decide +kernel
theorem dX11_here_26 : decode cX11_here 26 = .ok (.dup, 1) := by decide +kernel
theorem dX11_here_27 : decode cX11_here 27 = .ok (.getfield 98, 3) := by decide +kernel
theorem dX11_here_30 : decode cX11_here 30 = .ok (.iconst 1, 1) := by decide +kernel
theorem dX11_here_31 : decode cX11_here 31 = .ok (.iadd, 1) := by decide +kernel
theorem dX11_here_32 : decode cX11_here 32 = .ok (.putfield 98, 3) := by decide +kernel
theorem dX11_here_35 : decode cX11_here 35 = .ok (.goto (-35), 3) := by decide +kernel
theorem dX11_here_38 : decode cX11_here 38 = .ok (.aload_n 0, 1) := by decide +kernel
theorem dX11_here_39 : decode cX11_here 39 = .ok (.getfield 98, 3) := by decide +kernel
theorem dX11_here_42 : decode cX11_here 42 = .ok (.aload_n 0, 1) := by decide +kernel
theorem dX11_here_43 : decode cX11_here 43 = .ok (.getfield 94, 3) := by decide +kernel
theorem dX11_here_46 : decode cX11_here 46 = .ok (.if_icmp .ge 15, 3) := by decide +kernel
theorem dX11_here_49 : decode cX11_here 49 = .ok (.aload_n 0, 1) := by decide +kernel
theorem dX11_here_50 : decode cX11_here 50 = .ok (.getfield 28, 3) := by decide +kernel
theorem dX11_here_53 : decode cX11_here 53 = .ok (.aload_n 0, 1) := by decide +kernel
theorem dX11_here_54 : decode cX11_here 54 = .ok (.getfield 98, 3) := by decide +kernel
theorem dX11_here_57 : decode cX11_here 57 = .ok (.iaload, 1) := by decide +kernel
theorem dX11_here_58 : decode cX11_here 58 = .ok (.goto 4, 3) := by decide +kernel
theorem dX11_here_61 : decode cX11_here 61 = .ok (.iconst (-1), 1) := by decide +kernel
theorem dX11_here_62 : decode cX11_here 62 = .ok (.ireturn, 1) := by decide +kernel
theorem dX11_fails_0 : decode cX11_fails 0 = .ok (.aload_n 0, 1) := by decide +kernel
theorem dX11_fails_1 : decode cX11_fails 1 = .ok (.iload_n 2, 1) := by decide +kernel
theorem dX11_fails_2 : decode cX11_fails 2 = .ok (.putfield 31, 3) := by decide +kernel
theorem dX11_fails_5 : decode cX11_fails 5 = .ok (.iload_n 1, 1) := by decide +kernel
theorem dX11_fails_6 : decode cX11_fails 6 = .ok (.ireturn, 1) := by decide +kernel
theorem dX11_takeNumber_0 : decode cX11_takeNumber 0 = .ok (.aload_n 0, 1) := by decide +kernel
theorem dX11_takeNumber_1 : decode cX11_takeNumber 1 = .ok (.invokevirtual 101, 3) := by decide +kernel
theorem dX11_takeNumber_4 : decode cX11_takeNumber 4 = .ok (.istore_n 3, 1) := by decide +kernel
theorem dX11_takeNumber_5 : decode cX11_takeNumber 5 = .ok (.iload_n 3, 1) := by decide +kernel
theorem dX11_takeNumber_6 : decode cX11_takeNumber 6 = .ok (.i2l, 1) := by decide +kernel
theorem dX11_takeNumber_7 : decode cX11_takeNumber 7 = .ok (.ldc2_w 105, 3) := by decide +kernel
theorem dX11_takeNumber_10 : decode cX11_takeNumber 10 = .ok (.ldc2_w 107, 3) := by decide +kernel
theorem dX11_takeNumber_13 : decode cX11_takeNumber 13 = .ok (.invokestatic 84, 3) := by decide +kernel
theorem dX11_takeNumber_16 : decode cX11_takeNumber 16 = .ok (.ifCond .ne 13, 3) := by decide +kernel
theorem dX11_takeNumber_19 : decode cX11_takeNumber 19 = .ok (.aload_n 0, 1) := by decide +kernel
theorem dX11_takeNumber_20 : decode cX11_takeNumber 20 = .ok (.iconst 1, 1) := by decide +kernel
theorem dX11_takeNumber_21 : decode cX11_takeNumber 21 = .ok (.aload_n 0, 1) := by decide +kernel
theorem dX11_takeNumber_22 : decode cX11_takeNumber 22 = .ok (.getfield 98, 3) := by decide +kernel
theorem dX11_takeNumber_25 : decode cX11_takeNumber 25 = .ok (.invokevirtual 109, 3) := by decide +kernel
theorem dX11_takeNumber_28 : decode cX11_takeNumber 28 = .ok (.ireturn, 1) := by decide +kernel
theorem dX11_takeNumber_29 : decode cX11_takeNumber 29 = .ok (.aload_n 0, 1) := by decide +kernel
theorem dX11_takeNumber_30 : decode cX11_takeNumber 30 = .ok (.aload_n 0, 1) := by decide +kernel
theorem dX11_takeNumber_31 : decode cX11_takeNumber 31 = .ok (.getfield 98, 3) := by decide +kernel
theorem dX11_takeNumber_34 : decode cX11_takeNumber 34 = .ok (.putfield 113, 3) := by decide +kernel
theorem dX11_takeNumber_37 : decode cX11_takeNumber 37 = .ok (.aload_n 0, 1) := by decide +kernel
theorem dX11_takeNumber_38 : decode cX11_takeNumber 38 = .ok (.iconst 0, 1) := by decide +kernel
theorem dX11_takeNumber_39 : decode cX11_takeNumber 39 = .ok (.putfield 116, 3) := by decide +kernel
theorem dX11_takeNumber_42 : decode cX11_takeNumber 42 = .ok (.aload_n 0, 1) := by decide +kernel
theorem dX11_takeNumber_43 : decode cX11_takeNumber 43 = .ok (.getfield 98, 3) := by decide +kernel
theorem dX11_takeNumber_46 : decode cX11_takeNumber 46 = .ok (.aload_n 0, 1) := by decide +kernel
theorem dX11_takeNumber_47 : decode cX11_takeNumber 47 = .ok (.getfield 94, 3) := by decide +kernel
theorem dX11_takeNumber_50 : decode cX11_takeNumber 50 = .ok (.if_icmp .ge 79, 3) := by decide +kernel
theorem dX11_takeNumber_53 : decode cX11_takeNumber 53 = .ok (.aload_n 0, 1) := by decide +kernel
theorem dX11_takeNumber_54 : decode cX11_takeNumber 54 = .ok (.getfield 28, 3) := by decide +kernel
theorem dX11_takeNumber_57 : decode cX11_takeNumber 57 = .ok (.aload_n 0, 1) := by decide +kernel
theorem dX11_takeNumber_58 : decode cX11_takeNumber 58 = .ok (.getfield 98, 3) := by decide +kernel
theorem dX11_takeNumber_61 : decode cX11_takeNumber 61 = .ok (.iaload, 1) := by decide +kernel
theorem dX11_takeNumber_62 : decode cX11_takeNumber 62 = .ok (.i2l, 1) := by decide +kernel
theorem dX11_takeNumber_63 : decode cX11_takeNumber 63 = .ok (.ldc2_w 105, 3) := by decide +kernel
theorem dX11_takeNumber_66 : decode cX11_takeNumber 66 = .ok (.ldc2_w 107, 3) := by decide +kernel
theorem dX11_takeNumber_69 : decode cX11_takeNumber 69 = .ok (.invokestatic 84, 3) := by decide +kernel
theorem dX11_takeNumber_72 : decode cX11_takeNumber 72 = .ok (.ifCond .eq 57, 3) := by decide +kernel
theorem dX11_takeNumber_75 : decode cX11_takeNumber 75 = .ok (.aload_n 0, 1) := by decide +kernel
theorem dX11_takeNumber_76 : decode cX11_takeNumber 76 = .ok (.aload_n 0, 1) := by decide +kernel
theorem dX11_takeNumber_77 : decode cX11_takeNumber 77 = .ok (.getfield 116, 3) := by decide +kernel
theorem dX11_takeNumber_80 : decode cX11_takeNumber 80 = .ok (.sipush 10000, 3) := by decide +kernel
theorem dX11_takeNumber_83 : decode cX11_takeNumber 83 = .ok (.if_icmp .le 10, 3) := by decide +kernel
theorem dX11_takeNumber_86 : decode cX11_takeNumber 86 = .ok (.aload_n 0, 1) := by decide +kernel
theorem dX11_takeNumber_87 : decode cX11_takeNumber 87 = .ok (.getfield 116, 3) := by decide +kernel
theorem dX11_takeNumber_90 : decode cX11_takeNumber 90 = .ok (.goto 23, 3) := by decide +kernel
theorem dX11_takeNumber_93 : decode cX11_takeNumber 93 = .ok (.bipush 10, 2) := by decide +kernel
theorem dX11_takeNumber_95 : decode cX11_takeNumber 95 = .ok (.aload_n 0, 1) := by decide +kernel
theorem dX11_takeNumber_96 : decode cX11_takeNumber 96 = .ok (.getfield 116, 3) := by decide +kernel
theorem dX11_takeNumber_99 : decode cX11_takeNumber 99 = .ok (.imul, 1) := by decide +kernel
theorem dX11_takeNumber_100 : decode cX11_takeNumber 100 = .ok (.aload_n 0, 1) := by decide +kernel
theorem dX11_takeNumber_101 : decode cX11_takeNumber 101 = .ok (.getfield 28, 3) := by decide +kernel
theorem dX11_takeNumber_104 : decode cX11_takeNumber 104 = .ok (.aload_n 0, 1) := by decide +kernel
theorem dX11_takeNumber_105 : decode cX11_takeNumber 105 = .ok (.getfield 98, 3) := by decide +kernel
theorem dX11_takeNumber_108 : decode cX11_takeNumber 108 = .ok (.iaload, 1) := by decide +kernel
theorem dX11_takeNumber_109 : decode cX11_takeNumber 109 = .ok (.iadd, 1) := by decide +kernel
theorem dX11_takeNumber_110 : decode cX11_takeNumber 110 = .ok (.bipush 48, 2) := by decide +kernel
theorem dX11_takeNumber_112 : decode cX11_takeNumber 112 = .ok (.isub, 1) := by decide +kernel
theorem dX11_takeNumber_113 : decode cX11_takeNumber 113 = .ok (.putfield 116, 3) := by decide +kernel
theorem dX11_takeNumber_116 : decode cX11_takeNumber 116 = .ok (.aload_n 0, 1) := by decide +kernel
theorem dX11_takeNumber_117 : decode cX11_takeNumber 117 = .ok (.dup, 1) := by decide +kernel
theorem dX11_takeNumber_118 : decode cX11_takeNumber 118 = .ok (.getfield 98, 3) := by decide +kernel
theorem dX11_takeNumber_121 : decode cX11_takeNumber 121 = .ok (.iconst 1, 1) := by decide +kernel
theorem dX11_takeNumber_122 : decode cX11_takeNumber 122 = .ok (.iadd, 1) := by decide +kernel
theorem dX11_takeNumber_123 : decode cX11_takeNumber 123 = .ok (.putfield 98, 3) := by decide +kernel
theorem dX11_takeNumber_126 : decode cX11_takeNumber 126 = .ok (.goto (-84), 3) := by decide +kernel
theorem dX11_takeNumber_129 : decode cX11_takeNumber 129 = .ok (.aload_n 0, 1) := by decide +kernel
theorem dX11_takeNumber_130 : decode cX11_takeNumber 130 = .ok (.getfield 98, 3) := by decide +kernel
theorem dX11_takeNumber_133 : decode cX11_takeNumber 133 = .ok (.aload_n 0, 1) := by decide +kernel
theorem dX11_takeNumber_134 : decode cX11_takeNumber 134 = .ok (.getfield 113, 3) := by decide +kernel
theorem dX11_takeNumber_137 : decode cX11_takeNumber 137 = .ok (.isub, 1) := by decide +kernel
theorem dX11_takeNumber_138 : decode cX11_takeNumber 138 = .ok (.iconst 3, 1) := by decide +kernel
theorem dX11_takeNumber_139 : decode cX11_takeNumber 139 = .ok (.if_icmp .gt 18, 3) := by decide +kernel
theorem dX11_takeNumber_142 : decode cX11_takeNumber 142 = .ok (.aload_n 0, 1) := by decide +kernel
theorem dX11_takeNumber_143 : decode cX11_takeNumber 143 = .ok (.getfield 116, 3) := by decide +kernel
theorem dX11_takeNumber_146 : decode cX11_takeNumber 146 = .ok (.i2l, 1) := by decide +kernel
theorem dX11_takeNumber_147 : decode cX11_takeNumber 147 = .ok (.iload_n 1, 1) := by decide +kernel
theorem dX11_takeNumber_148 : decode cX11_takeNumber 148 = .ok (.i2l, 1) := by decide +kernel
theorem dX11_takeNumber_149 : decode cX11_takeNumber 149 = .ok (.iload_n 2, 1) := by decide +kernel
theorem dX11_takeNumber_150 : decode cX11_takeNumber 150 = .ok (.i2l, 1) := by decide +kernel
theorem dX11_takeNumber_151 : decode cX11_takeNumber 151 = .ok (.invokestatic 84, 3) := by decide +kernel
theorem dX11_takeNumber_154 : decode cX11_takeNumber 154 = .ok (.ifCond .ne 15, 3) := by decide +kernel
theorem dX11_takeNumber_157 : decode cX11_takeNumber 157 = .ok (.aload_n 0, 1) := by decide +kernel
theorem dX11_takeNumber_158 : decode cX11_takeNumber 158 = .ok (.iconst 2, 1) := by decide +kernel
theorem dX11_takeNumber_159 : decode cX11_takeNumber 159 = .ok (.aload_n 0, 1) := by decide +kernel
theorem dX11_takeNumber_160 : decode cX11_takeNumber 160 = .ok (.getfield 113, 3) := by decide +kernel
theorem dX11_takeNumber_163 : decode cX11_takeNumber 163 = .ok (.invokevirtual 109, 3) := by decide +kernel
theorem dX11_takeNumber_166 : decode cX11_takeNumber 166 = .ok (.goto 4, 3) := by decide +kernel
theorem dX11_takeNumber_169 : decode cX11_takeNumber 169 = .ok (.iconst 0, 1) := by decide +kernel
theorem dX11_takeNumber_170 : decode cX11_takeNumber 170 = .ok (.ireturn, 1) := by decide +kernel
theorem dX11_into_0 : decode cX11_into 0 = .ok (.aload_n 0, 1) := by decide +kernel
theorem dX11_into_1 : decode cX11_into 1 = .ok (.iload_n 3, 1) := by decide +kernel
theorem dX11_into_2 : decode cX11_into 2 = .ok (.iload 4, 2) := by decide +kernel
theorem dX11_into_4 : decode cX11_into 4 = .ok (.invokevirtual 119, 3) := by decide +kernel
theorem dX11_into_7 : decode cX11_into 7 = .ok (.istore 5, 2) := by decide +kernel
theorem dX11_into_9 : decode cX11_into 9 = .ok (.aload_n 1, 1) := by decide +kernel
theorem dX11_into_10 : decode cX11_into 10 = .ok (.iload_n 2, 1) := by decide +kernel
theorem dX11_into_11 : decode cX11_into 11 = .ok (.aload_n 0, 1) := by decide +kernel
theorem dX11_into_12 : decode cX11_into 12 = .ok (.getfield 116, 3) := by decide +kernel
theorem dX11_into_15 : decode cX11_into 15 = .ok (.iastore, 1) := by decide +kernel
theorem dX11_into_16 : decode cX11_into 16 = .ok (.iload 5, 2) := by decide +kernel
theorem dX11_into_18 : decode cX11_into 18 = .ok (.ireturn, 1) := by decide +kernel
theorem dX11_takeDuchy_0 : decode cX11_takeDuchy 0 = .ok (.aload_n 0, 1) := by decide +kernel
theorem dX11_takeDuchy_1 : decode cX11_takeDuchy 1 = .ok (.iconst 1, 1) := by decide +kernel
theorem dX11_takeDuchy_2 : decode cX11_takeDuchy 2 = .ok (.bipush 9, 2) := by decide +kernel
theorem dX11_takeDuchy_4 : decode cX11_takeDuchy 4 = .ok (.invokevirtual 119, 3) := by decide +kernel
theorem dX11_takeDuchy_7 : decode cX11_takeDuchy 7 = .ok (.istore_n 1, 1) := by decide +kernel
theorem dX11_takeDuchy_8 : decode cX11_takeDuchy 8 = .ok (.aload_n 0, 1) := by decide +kernel
theorem dX11_takeDuchy_9 : decode cX11_takeDuchy 9 = .ok (.aload_n 0, 1) := by decide +kernel
theorem dX11_takeDuchy_10 : decode cX11_takeDuchy 10 = .ok (.getfield 116, 3) := by decide +kernel
theorem dX11_takeDuchy_13 : decode cX11_takeDuchy 13 = .ok (.putfield 122, 3) := by decide +kernel
theorem dX11_takeDuchy_16 : decode cX11_takeDuchy 16 = .ok (.iload_n 1, 1) := by decide +kernel
theorem dX11_takeDuchy_17 : decode cX11_takeDuchy 17 = .ok (.ifCond .le 7, 3) := by decide +kernel
theorem dX11_takeDuchy_20 : decode cX11_takeDuchy 20 = .ok (.iload_n 1, 1) := by decide +kernel
theorem dX11_takeDuchy_21 : decode cX11_takeDuchy 21 = .ok (.goto 9, 3) := by decide +kernel
theorem dX11_takeDuchy_24 : decode cX11_takeDuchy 24 = .ok (.aload_n 0, 1) := by decide +kernel
theorem dX11_takeDuchy_25 : decode cX11_takeDuchy 25 = .ok (.iconst 1, 1) := by decide +kernel
theorem dX11_takeDuchy_26 : decode cX11_takeDuchy 26 = .ok (.iconst 4, 1) := by decide +kernel
theorem dX11_takeDuchy_27 : decode cX11_takeDuchy 27 = .ok (.invokevirtual 119, 3) := by decide +kernel
theorem dX11_takeDuchy_30 : decode cX11_takeDuchy 30 = .ok (.istore_n 1, 1) := by decide +kernel
theorem dX11_takeDuchy_31 : decode cX11_takeDuchy 31 = .ok (.aload_n 0, 1) := by decide +kernel
theorem dX11_takeDuchy_32 : decode cX11_takeDuchy 32 = .ok (.aload_n 0, 1) := by decide +kernel
theorem dX11_takeDuchy_33 : decode cX11_takeDuchy 33 = .ok (.getfield 116, 3) := by decide +kernel
theorem dX11_takeDuchy_36 : decode cX11_takeDuchy 36 = .ok (.putfield 125, 3) := by decide +kernel
theorem dX11_takeDuchy_39 : decode cX11_takeDuchy 39 = .ok (.iload_n 1, 1) := by decide +kernel
theorem dX11_takeDuchy_40 : decode cX11_takeDuchy 40 = .ok (.ifCond .le 7, 3) := by decide +kernel
theorem dX11_takeDuchy_43 : decode cX11_takeDuchy 43 = .ok (.iload_n 1, 1) := by decide +kernel
theorem dX11_takeDuchy_44 : decode cX11_takeDuchy 44 = .ok (.goto 10, 3) := by decide +kernel
theorem dX11_takeDuchy_47 : decode cX11_takeDuchy 47 = .ok (.aload_n 0, 1) := by decide +kernel
theorem dX11_takeDuchy_48 : decode cX11_takeDuchy 48 = .ok (.iconst 1, 1) := by decide +kernel
theorem dX11_takeDuchy_49 : decode cX11_takeDuchy 49 = .ok (.bipush 9, 2) := by decide +kernel
theorem dX11_takeDuchy_51 : decode cX11_takeDuchy 51 = .ok (.invokevirtual 119, 3) := by decide +kernel
theorem dX11_takeDuchy_54 : decode cX11_takeDuchy 54 = .ok (.istore_n 1, 1) := by decide +kernel
theorem dX11_takeDuchy_55 : decode cX11_takeDuchy 55 = .ok (.aload_n 0, 1) := by decide +kernel
theorem dX11_takeDuchy_56 : decode cX11_takeDuchy 56 = .ok (.aload_n 0, 1) := by decide +kernel
theorem dX11_takeDuchy_57 : decode cX11_takeDuchy 57 = .ok (.getfield 116, 3) := by decide +kernel
theorem dX11_takeDuchy_60 : decode cX11_takeDuchy 60 = .ok (.putfield 128, 3) := by decide +kernel
theorem dX11_takeDuchy_63 : decode cX11_takeDuchy 63 = .ok (.iload_n 1, 1) := by decide +kernel
theorem dX11_takeDuchy_64 : decode cX11_takeDuchy 64 = .ok (.ireturn, 1) := by decide +kernel
theorem dX11_takeSinger_0 : decode cX11_takeSinger 0 = .ok (.aload_n 0, 1) := by decide +kernel
theorem dX11_takeSinger_1 : decode cX11_takeSinger 1 = .ok (.getfield 131, 3) := by decide +kernel
theorem dX11_takeSinger_4 : decode cX11_takeSinger 4 = .ok (.istore_n 1, 1) := by decide +kernel
theorem dX11_takeSinger_5 : decode cX11_takeSinger 5 = .ok (.aload_n 0, 1) := by decide +kernel
theorem dX11_takeSinger_6 : decode cX11_takeSinger 6 = .ok (.dup, 1) := by decide +kernel
theorem dX11_takeSinger_7 : decode cX11_takeSinger 7 = .ok (.getfield 131, 3) := by decide +kernel
theorem dX11_takeSinger_10 : decode cX11_takeSinger 10 = .ok (.iconst 1, 1) := by decide +kernel
theorem dX11_takeSinger_11 : decode cX11_takeSinger 11 = .ok (.iadd, 1) := by decide +kernel
theorem dX11_takeSinger_12 : decode cX11_takeSinger 12 = .ok (.putfield 131, 3) := by decide +kernel
theorem dX11_takeSinger_15 : decode cX11_takeSinger 15 = .ok (.aload_n 0, 1) := by decide +kernel
theorem dX11_takeSinger_16 : decode cX11_takeSinger 16 = .ok (.aload_n 0, 1) := by decide +kernel
theorem dX11_takeSinger_17 : decode cX11_takeSinger 17 = .ok (.getfield 35, 3) := by decide +kernel
theorem dX11_takeSinger_20 : decode cX11_takeSinger 20 = .ok (.iload_n 1, 1) := by decide +kernel
theorem dX11_takeSinger_21 : decode cX11_takeSinger 21 = .ok (.iconst 0, 1) := by decide +kernel
theorem dX11_takeSinger_22 : decode cX11_takeSinger 22 = .ok (.iconst 3, 1) := by decide +kernel
theorem dX11_takeSinger_23 : decode cX11_takeSinger 23 = .ok (.invokevirtual 134, 3) := by decide +kernel
theorem dX11_takeSinger_26 : decode cX11_takeSinger 26 = .ok (.istore_n 2, 1) := by decide +kernel
theorem dX11_takeSinger_27 : decode cX11_takeSinger 27 = .ok (.iload_n 2, 1) := by decide +kernel
theorem dX11_takeSinger_28 : decode cX11_takeSinger 28 = .ok (.ifCond .le 7, 3) := by decide +kernel
theorem dX11_takeSinger_31 : decode cX11_takeSinger 31 = .ok (.iload_n 2, 1) := by decide +kernel
theorem dX11_takeSinger_32 : decode cX11_takeSinger 32 = .ok (.goto 19, 3) := by decide +kernel
theorem dX11_takeSinger_35 : decode cX11_takeSinger 35 = .ok (.aload_n 0, 1) := by decide +kernel
theorem dX11_takeSinger_36 : decode cX11_takeSinger 36 = .ok (.aload_n 0, 1) := by decide +kernel
theorem dX11_takeSinger_37 : decode cX11_takeSinger 37 = .ok (.getfield 38, 3) := by decide +kernel
theorem dX11_takeSinger_40 : decode cX11_takeSinger 40 = .ok (.iload_n 1, 1) := by decide +kernel
theorem dX11_takeSinger_41 : decode cX11_takeSinger 41 = .ok (.iconst 0, 1) := by decide +kernel
theorem dX11_takeSinger_42 : decode cX11_takeSinger 42 = .ok (.aload_n 0, 1) := by decide +kernel
theorem dX11_takeSinger_43 : decode cX11_takeSinger 43 = .ok (.getfield 125, 3) := by decide +kernel
theorem dX11_takeSinger_46 : decode cX11_takeSinger 46 = .ok (.iconst 1, 1) := by decide +kernel
theorem dX11_takeSinger_47 : decode cX11_takeSinger 47 = .ok (.isub, 1) := by decide +kernel
theorem dX11_takeSinger_48 : decode cX11_takeSinger 48 = .ok (.invokevirtual 134, 3) := by decide +kernel
theorem dX11_takeSinger_51 : decode cX11_takeSinger 51 = .ok (.istore_n 2, 1) := by decide +kernel
theorem dX11_takeSinger_52 : decode cX11_takeSinger 52 = .ok (.iload_n 2, 1) := by decide +kernel
theorem dX11_takeSinger_53 : decode cX11_takeSinger 53 = .ok (.ifCond .le 7, 3) := by decide +kernel
theorem dX11_takeSinger_56 : decode cX11_takeSinger 56 = .ok (.iload_n 2, 1) := by decide +kernel
theorem dX11_takeSinger_57 : decode cX11_takeSinger 57 = .ok (.goto 16, 3) := by decide +kernel
theorem dX11_takeSinger_60 : decode cX11_takeSinger 60 = .ok (.aload_n 0, 1) := by decide +kernel
theorem dX11_takeSinger_61 : decode cX11_takeSinger 61 = .ok (.aload_n 0, 1) := by decide +kernel
theorem dX11_takeSinger_62 : decode cX11_takeSinger 62 = .ok (.getfield 41, 3) := by decide +kernel
theorem dX11_takeSinger_65 : decode cX11_takeSinger 65 = .ok (.iload_n 1, 1) := by decide +kernel
theorem dX11_takeSinger_66 : decode cX11_takeSinger 66 = .ok (.iconst 0, 1) := by decide +kernel
theorem dX11_takeSinger_67 : decode cX11_takeSinger 67 = .ok (.sipush 999, 3) := by decide +kernel
theorem dX11_takeSinger_70 : decode cX11_takeSinger 70 = .ok (.invokevirtual 134, 3) := by decide +kernel
theorem dX11_takeSinger_73 : decode cX11_takeSinger 73 = .ok (.istore_n 2, 1) := by decide +kernel
theorem dX11_takeSinger_74 : decode cX11_takeSinger 74 = .ok (.iload_n 2, 1) := by decide +kernel
theorem dX11_takeSinger_75 : decode cX11_takeSinger 75 = .ok (.ifCond .le 7, 3) := by decide +kernel
theorem dX11_takeSinger_78 : decode cX11_takeSinger 78 = .ok (.iload_n 2, 1) := by decide +kernel
theorem dX11_takeSinger_79 : decode cX11_takeSinger 79 = .ok (.goto 21, 3) := by decide +kernel
theorem dX11_takeSinger_82 : decode cX11_takeSinger 82 = .ok (.aload_n 0, 1) := by decide +kernel
theorem dX11_takeSinger_83 : decode cX11_takeSinger 83 = .ok (.aload_n 0, 1) := by decide +kernel
theorem dX11_takeSinger_84 : decode cX11_takeSinger 84 = .ok (.getfield 44, 3) := by decide +kernel
theorem dX11_takeSinger_87 : decode cX11_takeSinger 87 = .ok (.iload_n 1, 1) := by decide +kernel
theorem dX11_takeSinger_88 : decode cX11_takeSinger 88 = .ok (.iconst 0, 1) := by decide +kernel
theorem dX11_takeSinger_89 : decode cX11_takeSinger 89 = .ok (.iconst 1, 1) := by decide +kernel
theorem dX11_takeSinger_90 : decode cX11_takeSinger 90 = .ok (.aload_n 0, 1) := by decide +kernel
theorem dX11_takeSinger_91 : decode cX11_takeSinger 91 = .ok (.getfield 128, 3) := by decide +kernel
theorem dX11_takeSinger_94 : decode cX11_takeSinger 94 = .ok (.ishl, 1) := by decide +kernel
theorem dX11_takeSinger_95 : decode cX11_takeSinger 95 = .ok (.iconst 1, 1) := by decide +kernel
theorem dX11_takeSinger_96 : decode cX11_takeSinger 96 = .ok (.isub, 1) := by decide +kernel
theorem dX11_takeSinger_97 : decode cX11_takeSinger 97 = .ok (.invokevirtual 134, 3) := by decide +kernel
theorem dX11_takeSinger_100 : decode cX11_takeSinger 100 = .ok (.ireturn, 1) := by decide +kernel
theorem dX11_takeInspector_0 : decode cX11_takeInspector 0 = .ok (.aload_n 0, 1) := by decide +kernel
theorem dX11_takeInspector_1 : decode cX11_takeInspector 1 = .ok (.dup, 1) := by decide +kernel
theorem dX11_takeInspector_2 : decode cX11_takeInspector 2 = .ok (.getfield 138, 3) := by decide +kernel
theorem dX11_takeInspector_5 : decode cX11_takeInspector 5 = .ok (.iconst 1, 1) := by decide +kernel
theorem dX11_takeInspector_6 : decode cX11_takeInspector 6 = .ok (.iadd, 1) := by decide +kernel
theorem dX11_takeInspector_7 : decode cX11_takeInspector 7 = .ok (.putfield 138, 3) := by decide +kernel
theorem dX11_takeInspector_10 : decode cX11_takeInspector 10 = .ok (.aload_n 0, 1) := by decide +kernel
theorem dX11_takeInspector_11 : decode cX11_takeInspector 11 = .ok (.aload_n 0, 1) := by decide +kernel
theorem dX11_takeInspector_12 : decode cX11_takeInspector 12 = .ok (.getfield 47, 3) := by decide +kernel
theorem dX11_takeInspector_15 : decode cX11_takeInspector 15 = .ok (.aload_n 0, 1) := by decide +kernel
theorem dX11_takeInspector_16 : decode cX11_takeInspector 16 = .ok (.getfield 138, 3) := by decide +kernel
theorem dX11_takeInspector_19 : decode cX11_takeInspector 19 = .ok (.iconst 1, 1) := by decide +kernel
theorem dX11_takeInspector_20 : decode cX11_takeInspector 20 = .ok (.isub, 1) := by decide +kernel
theorem dX11_takeInspector_21 : decode cX11_takeInspector 21 = .ok (.iconst 0, 1) := by decide +kernel
theorem dX11_takeInspector_22 : decode cX11_takeInspector 22 = .ok (.aload_n 0, 1) := by decide +kernel
theorem dX11_takeInspector_23 : decode cX11_takeInspector 23 = .ok (.getfield 125, 3) := by decide +kernel
theorem dX11_takeInspector_26 : decode cX11_takeInspector 26 = .ok (.iconst 1, 1) := by decide +kernel
theorem dX11_takeInspector_27 : decode cX11_takeInspector 27 = .ok (.isub, 1) := by decide +kernel
theorem dX11_takeInspector_28 : decode cX11_takeInspector 28 = .ok (.invokevirtual 134, 3) := by decide +kernel
theorem dX11_takeInspector_31 : decode cX11_takeInspector 31 = .ok (.ireturn, 1) := by decide +kernel
theorem dX11_takeClause_0 : decode cX11_takeClause 0 = .ok (.aload_n 0, 1) := by decide +kernel
theorem dX11_takeClause_1 : decode cX11_takeClause 1 = .ok (.invokevirtual 101, 3) := by decide +kernel
theorem dX11_takeClause_4 : decode cX11_takeClause 4 = .ok (.istore_n 1, 1) := by decide +kernel
theorem dX11_takeClause_5 : decode cX11_takeClause 5 = .ok (.iload_n 1, 1) := by decide +kernel
theorem dX11_takeClause_6 : decode cX11_takeClause 6 = .ok (.bipush 100, 2) := by decide +kernel
theorem dX11_takeClause_8 : decode cX11_takeClause 8 = .ok (.if_icmp .ne 7, 3) := by decide +kernel
theorem dX11_takeClause_11 : decode cX11_takeClause 11 = .ok (.iconst 0, 1) := by decide +kernel
theorem dX11_takeClause_12 : decode cX11_takeClause 12 = .ok (.goto 24, 3) := by decide +kernel
theorem dX11_takeClause_15 : decode cX11_takeClause 15 = .ok (.iload_n 1, 1) := by decide +kernel
theorem dX11_takeClause_16 : decode cX11_takeClause 16 = .ok (.bipush 115, 2) := by decide +kernel
theorem dX11_takeClause_18 : decode cX11_takeClause 18 = .ok (.if_icmp .ne 7, 3) := by decide +kernel
theorem dX11_takeClause_21 : decode cX11_takeClause 21 = .ok (.iconst 1, 1) := by decide +kernel
theorem dX11_takeClause_22 : decode cX11_takeClause 22 = .ok (.goto 14, 3) := by decide +kernel
theorem dX11_takeClause_25 : decode cX11_takeClause 25 = .ok (.iload_n 1, 1) := by decide +kernel
theorem dX11_takeClause_26 : decode cX11_takeClause 26 = .ok (.bipush 105, 2) := by decide +kernel
theorem dX11_takeClause_28 : decode cX11_takeClause 28 = .ok (.if_icmp .ne 7, 3) := by decide +kernel
theorem dX11_takeClause_31 : decode cX11_takeClause 31 = .ok (.iconst 2, 1) := by decide +kernel
theorem dX11_takeClause_32 : decode cX11_takeClause 32 = .ok (.goto 4, 3) := by decide +kernel
theorem dX11_takeClause_35 : decode cX11_takeClause 35 = .ok (.iconst (-1), 1) := by decide +kernel
theorem dX11_takeClause_36 : decode cX11_takeClause 36 = .ok (.istore_n 2, 1) := by decide +kernel
theorem dX11_takeClause_37 : decode cX11_takeClause 37 = .ok (.iload_n 2, 1) := by decide +kernel
theorem dX11_takeClause_38 : decode cX11_takeClause 38 = .ok (.ifCond .lt 14, 3) := by decide +kernel
theorem dX11_takeClause_41 : decode cX11_takeClause 41 = .ok (.iload_n 2, 1) := by decide +kernel
theorem dX11_takeClause_42 : decode cX11_takeClause 42 = .ok (.ifCond .le 20, 3) := by decide +kernel
theorem dX11_takeClause_45 : decode cX11_takeClause 45 = .ok (.aload_n 0, 1) := by decide +kernel
theorem dX11_takeClause_46 : decode cX11_takeClause 46 = .ok (.getfield 122, 3) := by decide +kernel
theorem dX11_takeClause_49 : decode cX11_takeClause 49 = .ok (.ifCond .ne 13, 3) := by decide +kernel
theorem dX11_takeClause_52 : decode cX11_takeClause 52 = .ok (.aload_n 0, 1) := by decide +kernel
theorem dX11_takeClause_53 : decode cX11_takeClause 53 = .ok (.iconst 1, 1) := by decide +kernel
theorem dX11_takeClause_54 : decode cX11_takeClause 54 = .ok (.aload_n 0, 1) := by decide +kernel
theorem dX11_takeClause_55 : decode cX11_takeClause 55 = .ok (.getfield 98, 3) := by decide +kernel
theorem dX11_takeClause_58 : decode cX11_takeClause 58 = .ok (.invokevirtual 109, 3) := by decide +kernel
theorem dX11_takeClause_61 : decode cX11_takeClause 61 = .ok (.ireturn, 1) := by decide +kernel
theorem dX11_takeClause_62 : decode cX11_takeClause 62 = .ok (.iload_n 2, 1) := by decide +kernel
theorem dX11_takeClause_63 : decode cX11_takeClause 63 = .ok (.ifCond .ne 18, 3) := by decide +kernel
theorem dX11_takeClause_66 : decode cX11_takeClause 66 = .ok (.aload_n 0, 1) := by decide +kernel
theorem dX11_takeClause_67 : decode cX11_takeClause 67 = .ok (.getfield 122, 3) := by decide +kernel
theorem dX11_takeClause_70 : decode cX11_takeClause 70 = .ok (.ifCond .le 7, 3) := by decide +kernel
theorem dX11_takeClause_73 : decode cX11_takeClause 73 = .ok (.iconst 1, 1) := by decide +kernel
theorem dX11_takeClause_74 : decode cX11_takeClause 74 = .ok (.goto 42, 3) := by decide +kernel
theorem dX11_takeClause_77 : decode cX11_takeClause 77 = .ok (.iconst 0, 1) := by decide +kernel
theorem dX11_takeClause_78 : decode cX11_takeClause 78 = .ok (.goto 38, 3) := by decide +kernel
theorem dX11_takeClause_81 : decode cX11_takeClause 81 = .ok (.iload_n 2, 1) := by decide +kernel
theorem dX11_takeClause_82 : decode cX11_takeClause 82 = .ok (.iconst 1, 1) := by decide +kernel
theorem dX11_takeClause_83 : decode cX11_takeClause 83 = .ok (.if_icmp .ne 20, 3) := by decide +kernel
theorem dX11_takeClause_86 : decode cX11_takeClause 86 = .ok (.aload_n 0, 1) := by decide +kernel
theorem dX11_takeClause_87 : decode cX11_takeClause 87 = .ok (.getfield 131, 3) := by decide +kernel
theorem dX11_takeClause_90 : decode cX11_takeClause 90 = .ok (.bipush 7, 2) := by decide +kernel
theorem dX11_takeClause_92 : decode cX11_takeClause 92 = .ok (.if_icmp .ne 7, 3) := by decide +kernel
theorem dX11_takeClause_95 : decode cX11_takeClause 95 = .ok (.iconst 1, 1) := by decide +kernel
theorem dX11_takeClause_96 : decode cX11_takeClause 96 = .ok (.goto 20, 3) := by decide +kernel
theorem dX11_takeClause_99 : decode cX11_takeClause 99 = .ok (.iconst 0, 1) := by decide +kernel
theorem dX11_takeClause_100 : decode cX11_takeClause 100 = .ok (.goto 16, 3) := by decide +kernel
theorem dX11_takeClause_103 : decode cX11_takeClause 103 = .ok (.aload_n 0, 1) := by decide +kernel
theorem dX11_takeClause_104 : decode cX11_takeClause 104 = .ok (.getfield 138, 3) := by decide +kernel
theorem dX11_takeClause_107 : decode cX11_takeClause 107 = .ok (.iconst 4, 1) := by decide +kernel
theorem dX11_takeClause_108 : decode cX11_takeClause 108 = .ok (.if_icmp .ne 7, 3) := by decide +kernel
theorem dX11_takeClause_111 : decode cX11_takeClause 111 = .ok (.iconst 1, 1) := by decide +kernel
theorem dX11_takeClause_112 : decode cX11_takeClause 112 = .ok (.goto 4, 3) := by decide +kernel
theorem dX11_takeClause_115 : decode cX11_takeClause 115 = .ok (.iconst 0, 1) := by decide +kernel
theorem dX11_takeClause_116 : decode cX11_takeClause 116 = .ok (.istore_n 3, 1) := by decide +kernel
theorem dX11_takeClause_117 : decode cX11_takeClause 117 = .ok (.iload_n 3, 1) := by decide +kernel
theorem dX11_takeClause_118 : decode cX11_takeClause 118 = .ok (.ifCond .eq 13, 3) := by decide +kernel
theorem dX11_takeClause_121 : decode cX11_takeClause 121 = .ok (.aload_n 0, 1) := by decide +kernel
theorem dX11_takeClause_122 : decode cX11_takeClause 122 = .ok (.iconst 3, 1) := by decide +kernel
theorem dX11_takeClause_123 : decode cX11_takeClause 123 = .ok (.aload_n 0, 1) := by decide +kernel
theorem dX11_takeClause_124 : decode cX11_takeClause 124 = .ok (.getfield 98, 3) := by decide +kernel
theorem dX11_takeClause_127 : decode cX11_takeClause 127 = .ok (.invokevirtual 109, 3) := by decide +kernel
theorem dX11_takeClause_130 : decode cX11_takeClause 130 = .ok (.ireturn, 1) := by decide +kernel
theorem dX11_takeClause_131 : decode cX11_takeClause 131 = .ok (.aload_n 0, 1) := by decide +kernel
theorem dX11_takeClause_132 : decode cX11_takeClause 132 = .ok (.dup, 1) := by decide +kernel
theorem dX11_takeClause_133 : decode cX11_takeClause 133 = .ok (.getfield 98, 3) := by decide +kernel
theorem dX11_takeClause_136 : decode cX11_takeClause 136 = .ok (.iconst 1, 1) := by decide +kernel
theorem dX11_takeClause_137 : decode cX11_takeClause 137 = .ok (.iadd, 1) := by decide +kernel
theorem dX11_takeClause_138 : decode cX11_takeClause 138 = .ok (.putfield 98, 3) := by decide +kernel
theorem dX11_takeClause_141 : decode cX11_takeClause 141 = .ok (.iload_n 2, 1) := by decide +kernel
theorem dX11_takeClause_142 : decode cX11_takeClause 142 = .ok (.ifCond .ne 10, 3) := by decide +kernel
theorem dX11_takeClause_145 : decode cX11_takeClause 145 = .ok (.aload_n 0, 1) := by decide +kernel
theorem dX11_takeClause_146 : decode cX11_takeClause 146 = .ok (.invokevirtual 141, 3) := by decide +kernel
theorem dX11_takeClause_149 : decode cX11_takeClause 149 = .ok (.goto 19, 3) := by decide +kernel
theorem dX11_takeClause_152 : decode cX11_takeClause 152 = .ok (.iload_n 2, 1) := by decide +kernel
theorem dX11_takeClause_153 : decode cX11_takeClause 153 = .ok (.iconst 1, 1) := by decide +kernel
theorem dX11_takeClause_154 : decode cX11_takeClause 154 = .ok (.if_icmp .ne 10, 3) := by decide +kernel
theorem dX11_takeClause_157 : decode cX11_takeClause 157 = .ok (.aload_n 0, 1) := by decide +kernel
theorem dX11_takeClause_158 : decode cX11_takeClause 158 = .ok (.invokevirtual 144, 3) := by decide +kernel
theorem dX11_takeClause_161 : decode cX11_takeClause 161 = .ok (.goto 7, 3) := by decide +kernel
theorem dX11_takeClause_164 : decode cX11_takeClause 164 = .ok (.aload_n 0, 1) := by decide +kernel
theorem dX11_takeClause_165 : decode cX11_takeClause 165 = .ok (.invokevirtual 147, 3) := by decide +kernel
theorem dX11_takeClause_168 : decode cX11_takeClause 168 = .ok (.istore 4, 2) := by decide +kernel
theorem dX11_takeClause_170 : decode cX11_takeClause 170 = .ok (.iload 4, 2) := by decide +kernel
theorem dX11_takeClause_172 : decode cX11_takeClause 172 = .ok (.ifCond .ne 22, 3) := by decide +kernel
theorem dX11_takeClause_175 : decode cX11_takeClause 175 = .ok (.aload_n 0, 1) := by decide +kernel
theorem dX11_takeClause_176 : decode cX11_takeClause 176 = .ok (.invokevirtual 101, 3) := by decide +kernel
theorem dX11_takeClause_179 : decode cX11_takeClause 179 = .ok (.bipush 59, 2) := by decide +kernel
theorem dX11_takeClause_181 : decode cX11_takeClause 181 = .ok (.if_icmp .eq 13, 3) := by decide +kernel
theorem dX11_takeClause_184 : decode cX11_takeClause 184 = .ok (.aload_n 0, 1) := by decide +kernel
theorem dX11_takeClause_185 : decode cX11_takeClause 185 = .ok (.iconst 1, 1) := by decide +kernel
theorem dX11_takeClause_186 : decode cX11_takeClause 186 = .ok (.aload_n 0, 1) := by decide +kernel
theorem dX11_takeClause_187 : decode cX11_takeClause 187 = .ok (.getfield 98, 3) := by decide +kernel
theorem dX11_takeClause_190 : decode cX11_takeClause 190 = .ok (.invokevirtual 109, 3) := by decide +kernel
theorem dX11_takeClause_193 : decode cX11_takeClause 193 = .ok (.ireturn, 1) := by decide +kernel
theorem dX11_takeClause_194 : decode cX11_takeClause 194 = .ok (.aload_n 0, 1) := by decide +kernel
theorem dX11_takeClause_195 : decode cX11_takeClause 195 = .ok (.dup, 1) := by decide +kernel
theorem dX11_takeClause_196 : decode cX11_takeClause 196 = .ok (.getfield 98, 3) := by decide +kernel
theorem dX11_takeClause_199 : decode cX11_takeClause 199 = .ok (.iconst 1, 1) := by decide +kernel
theorem dX11_takeClause_200 : decode cX11_takeClause 200 = .ok (.iadd, 1) := by decide +kernel
theorem dX11_takeClause_201 : decode cX11_takeClause 201 = .ok (.putfield 98, 3) := by decide +kernel
theorem dX11_takeClause_204 : decode cX11_takeClause 204 = .ok (.iload 4, 2) := by decide +kernel
theorem dX11_takeClause_206 : decode cX11_takeClause 206 = .ok (.ireturn, 1) := by decide +kernel
theorem dX11_copyRow_0 : decode cX11_copyRow 0 = .ok (.iconst 0, 1) := by decide +kernel
theorem dX11_copyRow_1 : decode cX11_copyRow 1 = .ok (.istore_n 3, 1) := by decide +kernel
theorem dX11_copyRow_2 : decode cX11_copyRow 2 = .ok (.iload_n 3, 1) := by decide +kernel
theorem dX11_copyRow_3 : decode cX11_copyRow 3 = .ok (.iload_n 2, 1) := by decide +kernel
theorem dX11_copyRow_4 : decode cX11_copyRow 4 = .ok (.if_icmp .ge 15, 3) := by decide +kernel
theorem dX11_copyRow_7 : decode cX11_copyRow 7 = .ok (.aload_n 1, 1) := by decide +kernel
theorem dX11_copyRow_8 : decode cX11_copyRow 8 = .ok (.iload_n 3, 1) := by decide +kernel
theorem dX11_copyRow_9 : decode cX11_copyRow 9 = .ok (.aload_n 0, 1) := by decide +kernel
theorem dX11_copyRow_10 : decode cX11_copyRow 10 = .ok (.iload_n 3, 1) := by decide +kernel
theorem dX11_copyRow_11 : decode cX11_copyRow 11 = .ok (.iaload, 1) := by decide +kernel
theorem dX11_copyRow_12 : decode cX11_copyRow 12 = .ok (.iastore, 1) := by decide +kernel
theorem dX11_copyRow_13 : decode cX11_copyRow 13 = .ok (.iinc 3 1, 3) := by decide +kernel
theorem dX11_copyRow_16 : decode cX11_copyRow 16 = .ok (.goto (-14), 3) := by decide +kernel
theorem dX11_copyRow_19 : decode cX11_copyRow 19 = .ok (.return_, 1) := by decide +kernel
theorem dX11_takeRead_0 : decode cX11_takeRead 0 = .ok (.aload_n 0, 1) := by decide +kernel
theorem dX11_takeRead_1 : decode cX11_takeRead 1 = .ok (.aload_n 0, 1) := by decide +kernel
theorem dX11_takeRead_2 : decode cX11_takeRead 2 = .ok (.getfield 122, 3) := by decide +kernel
theorem dX11_takeRead_5 : decode cX11_takeRead 5 = .ok (.putfield 78, 3) := by decide +kernel
theorem dX11_takeRead_8 : decode cX11_takeRead 8 = .ok (.aload_n 0, 1) := by decide +kernel
theorem dX11_takeRead_9 : decode cX11_takeRead 9 = .ok (.aload_n 0, 1) := by decide +kernel
theorem dX11_takeRead_10 : decode cX11_takeRead 10 = .ok (.getfield 125, 3) := by decide +kernel
theorem dX11_takeRead_13 : decode cX11_takeRead 13 = .ok (.putfield 88, 3) := by decide +kernel
theorem dX11_takeRead_16 : decode cX11_takeRead 16 = .ok (.aload_n 0, 1) := by decide +kernel
theorem dX11_takeRead_17 : decode cX11_takeRead 17 = .ok (.aload_n 0, 1) := by decide +kernel
theorem dX11_takeRead_18 : decode cX11_takeRead 18 = .ok (.getfield 128, 3) := by decide +kernel
theorem dX11_takeRead_21 : decode cX11_takeRead 21 = .ok (.putfield 150, 3) := by decide +kernel
theorem dX11_takeRead_24 : decode cX11_takeRead 24 = .ok (.aload_n 0, 1) := by decide +kernel
theorem dX11_takeRead_25 : decode cX11_takeRead 25 = .ok (.aload_n 0, 1) := by decide +kernel
theorem dX11_takeRead_26 : decode cX11_takeRead 26 = .ok (.getfield 131, 3) := by decide +kernel
theorem dX11_takeRead_29 : decode cX11_takeRead 29 = .ok (.putfield 81, 3) := by decide +kernel
theorem dX11_takeRead_32 : decode cX11_takeRead 32 = .ok (.aload_n 0, 1) := by decide +kernel
theorem dX11_takeRead_33 : decode cX11_takeRead 33 = .ok (.aload_n 0, 1) := by decide +kernel
theorem dX11_takeRead_34 : decode cX11_takeRead 34 = .ok (.getfield 138, 3) := by decide +kernel
theorem dX11_takeRead_37 : decode cX11_takeRead 37 = .ok (.putfield 153, 3) := by decide +kernel
theorem dX11_takeRead_40 : decode cX11_takeRead 40 = .ok (.aload_n 0, 1) := by decide +kernel
theorem dX11_takeRead_41 : decode cX11_takeRead 41 = .ok (.getfield 35, 3) := by decide +kernel
theorem dX11_takeRead_44 : decode cX11_takeRead 44 = .ok (.aload_n 0, 1) := by decide +kernel
theorem dX11_takeRead_45 : decode cX11_takeRead 45 = .ok (.getfield 7, 3) := by decide +kernel
theorem dX11_takeRead_48 : decode cX11_takeRead 48 = .ok (.aload_n 0, 1) := by decide +kernel
theorem dX11_takeRead_49 : decode cX11_takeRead 49 = .ok (.getfield 81, 3) := by decide +kernel
theorem dX11_takeRead_52 : decode cX11_takeRead 52 = .ok (.invokestatic 156, 3) := by decide +kernel
theorem dX11_takeRead_55 : decode cX11_takeRead 55 = .ok (.aload_n 0, 1) := by decide +kernel
theorem dX11_takeRead_56 : decode cX11_takeRead 56 = .ok (.getfield 38, 3) := by decide +kernel
theorem dX11_takeRead_59 : decode cX11_takeRead 59 = .ok (.aload_n 0, 1) := by decide +kernel
theorem dX11_takeRead_60 : decode cX11_takeRead 60 = .ok (.getfield 13, 3) := by decide +kernel
theorem dX11_takeRead_63 : decode cX11_takeRead 63 = .ok (.aload_n 0, 1) := by decide +kernel
theorem dX11_takeRead_64 : decode cX11_takeRead 64 = .ok (.getfield 81, 3) := by decide +kernel
theorem dX11_takeRead_67 : decode cX11_takeRead 67 = .ok (.invokestatic 156, 3) := by decide +kernel
theorem dX11_takeRead_70 : decode cX11_takeRead 70 = .ok (.aload_n 0, 1) := by decide +kernel
theorem dX11_takeRead_71 : decode cX11_takeRead 71 = .ok (.getfield 41, 3) := by decide +kernel
theorem dX11_takeRead_74 : decode cX11_takeRead 74 = .ok (.aload_n 0, 1) := by decide +kernel
theorem dX11_takeRead_75 : decode cX11_takeRead 75 = .ok (.getfield 16, 3) := by decide +kernel
theorem dX11_takeRead_78 : decode cX11_takeRead 78 = .ok (.aload_n 0, 1) := by decide +kernel
theorem dX11_takeRead_79 : decode cX11_takeRead 79 = .ok (.getfield 81, 3) := by decide +kernel
theorem dX11_takeRead_82 : decode cX11_takeRead 82 = .ok (.invokestatic 156, 3) := by decide +kernel
theorem dX11_takeRead_85 : decode cX11_takeRead 85 = .ok (.aload_n 0, 1) := by decide +kernel
theorem dX11_takeRead_86 : decode cX11_takeRead 86 = .ok (.getfield 44, 3) := by decide +kernel
theorem dX11_takeRead_89 : decode cX11_takeRead 89 = .ok (.aload_n 0, 1) := by decide +kernel
theorem dX11_takeRead_90 : decode cX11_takeRead 90 = .ok (.getfield 19, 3) := by decide +kernel
theorem dX11_takeRead_93 : decode cX11_takeRead 93 = .ok (.aload_n 0, 1) := by decide +kernel
theorem dX11_takeRead_94 : decode cX11_takeRead 94 = .ok (.getfield 81, 3) := by decide +kernel
theorem dX11_takeRead_97 : decode cX11_takeRead 97 = .ok (.invokestatic 156, 3) := by decide +kernel
theorem dX11_takeRead_100 : decode cX11_takeRead 100 = .ok (.aload_n 0, 1) := by decide +kernel
theorem dX11_takeRead_101 : decode cX11_takeRead 101 = .ok (.getfield 47, 3) := by decide +kernel
theorem dX11_takeRead_104 : decode cX11_takeRead 104 = .ok (.aload_n 0, 1) := by decide +kernel
theorem dX11_takeRead_105 : decode cX11_takeRead 105 = .ok (.getfield 22, 3) := by decide +kernel
theorem dX11_takeRead_108 : decode cX11_takeRead 108 = .ok (.aload_n 0, 1) := by decide +kernel
theorem dX11_takeRead_109 : decode cX11_takeRead 109 = .ok (.getfield 153, 3) := by decide +kernel
theorem dX11_takeRead_112 : decode cX11_takeRead 112 = .ok (.invokestatic 156, 3) := by decide +kernel
theorem dX11_takeRead_115 : decode cX11_takeRead 115 = .ok (.iconst 0, 1) := by decide +kernel
theorem dX11_takeRead_116 : decode cX11_takeRead 116 = .ok (.istore_n 1, 1) := by decide +kernel
theorem dX11_takeRead_117 : decode cX11_takeRead 117 = .ok (.iload_n 1, 1) := by decide +kernel
theorem dX11_takeRead_118 : decode cX11_takeRead 118 = .ok (.bipush 29, 2) := by decide +kernel
theorem dX11_takeRead_120 : decode cX11_takeRead 120 = .ok (.if_icmp .ge 34, 3) := by decide +kernel
theorem dX11_takeRead_123 : decode cX11_takeRead 123 = .ok (.aload_n 0, 1) := by decide +kernel
theorem dX11_takeRead_124 : decode cX11_takeRead 124 = .ok (.getfield 25, 3) := by decide +kernel
theorem dX11_takeRead_127 : decode cX11_takeRead 127 = .ok (.iload_n 1, 1) := by decide +kernel
theorem dX11_takeRead_128 : decode cX11_takeRead 128 = .ok (.iload_n 1, 1) := by decide +kernel
theorem dX11_takeRead_129 : decode cX11_takeRead 129 = .ok (.i2l, 1) := by decide +kernel
theorem dX11_takeRead_130 : decode cX11_takeRead 130 = .ok (.ldc2_w 160, 3) := by decide +kernel
theorem dX11_takeRead_133 : decode cX11_takeRead 133 = .ok (.ldc2_w 162, 3) := by decide +kernel
theorem dX11_takeRead_136 : decode cX11_takeRead 136 = .ok (.invokestatic 84, 3) := by decide +kernel
theorem dX11_takeRead_139 : decode cX11_takeRead 139 = .ok (.ifCond .eq 7, 3) := by decide +kernel
theorem dX11_takeRead_142 : decode cX11_takeRead 142 = .ok (.iconst (-1), 1) := by decide +kernel
theorem dX11_takeRead_143 : decode cX11_takeRead 143 = .ok (.goto 4, 3) := by decide +kernel
theorem dX11_takeRead_146 : decode cX11_takeRead 146 = .ok (.iconst 0, 1) := by decide +kernel
theorem dX11_takeRead_147 : decode cX11_takeRead 147 = .ok (.iastore, 1) := by decide +kernel
theorem dX11_takeRead_148 : decode cX11_takeRead 148 = .ok (.iinc 1 1, 3) := by decide +kernel
theorem dX11_takeRead_151 : decode cX11_takeRead 151 = .ok (.goto (-34), 3) := by decide +kernel
theorem dX11_takeRead_154 : decode cX11_takeRead 154 = .ok (.iconst 0, 1) := by decide +kernel
theorem dX11_takeRead_155 : decode cX11_takeRead 155 = .ok (.istore_n 1, 1) := by decide +kernel
theorem dX11_takeRead_156 : decode cX11_takeRead 156 = .ok (.iload_n 1, 1) := by decide +kernel
theorem dX11_takeRead_157 : decode cX11_takeRead 157 = .ok (.aload_n 0, 1) := by decide +kernel
theorem dX11_takeRead_158 : decode cX11_takeRead 158 = .ok (.getfield 81, 3) := by decide +kernel
theorem dX11_takeRead_161 : decode cX11_takeRead 161 = .ok (.if_icmp .ge 36, 3) := by decide +kernel
theorem dX11_takeRead_164 : decode cX11_takeRead 164 = .ok (.aload_n 0, 1) := by decide +kernel
theorem dX11_takeRead_165 : decode cX11_takeRead 165 = .ok (.getfield 25, 3) := by decide +kernel
theorem dX11_takeRead_168 : decode cX11_takeRead 168 = .ok (.iload_n 1, 1) := by decide +kernel
theorem dX11_takeRead_169 : decode cX11_takeRead 169 = .ok (.aload_n 0, 1) := by decide +kernel
theorem dX11_takeRead_170 : decode cX11_takeRead 170 = .ok (.getfield 13, 3) := by decide +kernel
theorem dX11_takeRead_173 : decode cX11_takeRead 173 = .ok (.iload_n 1, 1) := by decide +kernel
theorem dX11_takeRead_174 : decode cX11_takeRead 174 = .ok (.iaload, 1) := by decide +kernel
theorem dX11_takeRead_175 : decode cX11_takeRead 175 = .ok (.iastore, 1) := by decide +kernel
theorem dX11_takeRead_176 : decode cX11_takeRead 176 = .ok (.aload_n 0, 1) := by decide +kernel
theorem dX11_takeRead_177 : decode cX11_takeRead 177 = .ok (.getfield 25, 3) := by decide +kernel
theorem dX11_takeRead_180 : decode cX11_takeRead 180 = .ok (.bipush 7, 2) := by decide +kernel
theorem dX11_takeRead_182 : decode cX11_takeRead 182 = .ok (.iload_n 1, 1) := by decide +kernel
theorem dX11_takeRead_183 : decode cX11_takeRead 183 = .ok (.iadd, 1) := by decide +kernel
theorem dX11_takeRead_184 : decode cX11_takeRead 184 = .ok (.aload_n 0, 1) := by decide +kernel
theorem dX11_takeRead_185 : decode cX11_takeRead 185 = .ok (.getfield 16, 3) := by decide +kernel
theorem dX11_takeRead_188 : decode cX11_takeRead 188 = .ok (.iload_n 1, 1) := by decide +kernel
theorem dX11_takeRead_189 : decode cX11_takeRead 189 = .ok (.iaload, 1) := by decide +kernel
theorem dX11_takeRead_190 : decode cX11_takeRead 190 = .ok (.iastore, 1) := by decide +kernel
theorem dX11_takeRead_191 : decode cX11_takeRead 191 = .ok (.iinc 1 1, 3) := by decide +kernel
theorem dX11_takeRead_194 : decode cX11_takeRead 194 = .ok (.goto (-38), 3) := by decide +kernel
theorem dX11_takeRead_197 : decode cX11_takeRead 197 = .ok (.iconst 0, 1) := by decide +kernel
theorem dX11_takeRead_198 : decode cX11_takeRead 198 = .ok (.istore_n 1, 1) := by decide +kernel
theorem dX11_takeRead_199 : decode cX11_takeRead 199 = .ok (.iload_n 1, 1) := by decide +kernel
theorem dX11_takeRead_200 : decode cX11_takeRead 200 = .ok (.aload_n 0, 1) := by decide +kernel
theorem dX11_takeRead_201 : decode cX11_takeRead 201 = .ok (.getfield 153, 3) := by decide +kernel
theorem dX11_takeRead_204 : decode cX11_takeRead 204 = .ok (.if_icmp .ge 24, 3) := by decide +kernel
theorem dX11_takeRead_207 : decode cX11_takeRead 207 = .ok (.aload_n 0, 1) := by decide +kernel
theorem dX11_takeRead_208 : decode cX11_takeRead 208 = .ok (.getfield 25, 3) := by decide +kernel
theorem dX11_takeRead_211 : decode cX11_takeRead 211 = .ok (.bipush 21, 2) := by decide +kernel
theorem dX11_takeRead_213 : decode cX11_takeRead 213 = .ok (.iload_n 1, 1) := by decide +kernel
theorem dX11_takeRead_214 : decode cX11_takeRead 214 = .ok (.iadd, 1) := by decide +kernel
theorem dX11_takeRead_215 : decode cX11_takeRead 215 = .ok (.aload_n 0, 1) := by decide +kernel
theorem dX11_takeRead_216 : decode cX11_takeRead 216 = .ok (.getfield 22, 3) := by decide +kernel
theorem dX11_takeRead_219 : decode cX11_takeRead 219 = .ok (.iload_n 1, 1) := by decide +kernel
theorem dX11_takeRead_220 : decode cX11_takeRead 220 = .ok (.iaload, 1) := by decide +kernel
theorem dX11_takeRead_221 : decode cX11_takeRead 221 = .ok (.iastore, 1) := by decide +kernel
theorem dX11_takeRead_222 : decode cX11_takeRead 222 = .ok (.iinc 1 1, 3) := by decide +kernel
theorem dX11_takeRead_225 : decode cX11_takeRead 225 = .ok (.goto (-26), 3) := by decide +kernel
theorem dX11_takeRead_228 : decode cX11_takeRead 228 = .ok (.aload_n 0, 1) := by decide +kernel
theorem dX11_takeRead_229 : decode cX11_takeRead 229 = .ok (.getfield 25, 3) := by decide +kernel
theorem dX11_takeRead_232 : decode cX11_takeRead 232 = .ok (.bipush 25, 2) := by decide +kernel
theorem dX11_takeRead_234 : decode cX11_takeRead 234 = .ok (.aload_n 0, 1) := by decide +kernel
theorem dX11_takeRead_235 : decode cX11_takeRead 235 = .ok (.getfield 78, 3) := by decide +kernel
theorem dX11_takeRead_238 : decode cX11_takeRead 238 = .ok (.iastore, 1) := by decide +kernel
theorem dX11_takeRead_239 : decode cX11_takeRead 239 = .ok (.return_, 1) := by decide +kernel
theorem dX11_duchy_0 : decode cX11_duchy 0 = .ok (.aload_n 0, 1) := by decide +kernel
theorem dX11_duchy_1 : decode cX11_duchy 1 = .ok (.iconst (-1), 1) := by decide +kernel
theorem dX11_duchy_2 : decode cX11_duchy 2 = .ok (.putfield 31, 3) := by decide +kernel
theorem dX11_duchy_5 : decode cX11_duchy 5 = .ok (.aload_n 0, 1) := by decide +kernel
theorem dX11_duchy_6 : decode cX11_duchy 6 = .ok (.iconst 0, 1) := by decide +kernel
theorem dX11_duchy_7 : decode cX11_duchy 7 = .ok (.putfield 98, 3) := by decide +kernel
theorem dX11_duchy_10 : decode cX11_duchy 10 = .ok (.aload_n 0, 1) := by decide +kernel
theorem dX11_duchy_11 : decode cX11_duchy 11 = .ok (.iconst 0, 1) := by decide +kernel
theorem dX11_duchy_12 : decode cX11_duchy 12 = .ok (.putfield 122, 3) := by decide +kernel
theorem dX11_duchy_15 : decode cX11_duchy 15 = .ok (.aload_n 0, 1) := by decide +kernel
theorem dX11_duchy_16 : decode cX11_duchy 16 = .ok (.iconst 0, 1) := by decide +kernel
theorem dX11_duchy_17 : decode cX11_duchy 17 = .ok (.putfield 125, 3) := by decide +kernel
theorem dX11_duchy_20 : decode cX11_duchy 20 = .ok (.aload_n 0, 1) := by decide +kernel
theorem dX11_duchy_21 : decode cX11_duchy 21 = .ok (.iconst 0, 1) := by decide +kernel
theorem dX11_duchy_22 : decode cX11_duchy 22 = .ok (.putfield 128, 3) := by decide +kernel
theorem dX11_duchy_25 : decode cX11_duchy 25 = .ok (.aload_n 0, 1) := by decide +kernel
theorem dX11_duchy_26 : decode cX11_duchy 26 = .ok (.iconst 0, 1) := by decide +kernel
theorem dX11_duchy_27 : decode cX11_duchy 27 = .ok (.putfield 131, 3) := by decide +kernel
theorem dX11_duchy_30 : decode cX11_duchy 30 = .ok (.aload_n 0, 1) := by decide +kernel
theorem dX11_duchy_31 : decode cX11_duchy 31 = .ok (.iconst 0, 1) := by decide +kernel
theorem dX11_duchy_32 : decode cX11_duchy 32 = .ok (.putfield 138, 3) := by decide +kernel
theorem dX11_duchy_35 : decode cX11_duchy 35 = .ok (.iconst 0, 1) := by decide +kernel
theorem dX11_duchy_36 : decode cX11_duchy 36 = .ok (.istore_n 1, 1) := by decide +kernel
theorem dX11_duchy_37 : decode cX11_duchy 37 = .ok (.iload_n 1, 1) := by decide +kernel
theorem dX11_duchy_38 : decode cX11_duchy 38 = .ok (.ifCond .ne 18, 3) := by decide +kernel
theorem dX11_duchy_41 : decode cX11_duchy 41 = .ok (.aload_n 0, 1) := by decide +kernel
theorem dX11_duchy_42 : decode cX11_duchy 42 = .ok (.invokevirtual 101, 3) := by decide +kernel
theorem dX11_duchy_45 : decode cX11_duchy 45 = .ok (.ifCond .lt 11, 3) := by decide +kernel
theorem dX11_duchy_48 : decode cX11_duchy 48 = .ok (.aload_n 0, 1) := by decide +kernel
theorem dX11_duchy_49 : decode cX11_duchy 49 = .ok (.invokevirtual 164, 3) := by decide +kernel
theorem dX11_duchy_52 : decode cX11_duchy 52 = .ok (.istore_n 1, 1) := by decide +kernel
theorem dX11_duchy_53 : decode cX11_duchy 53 = .ok (.goto (-16), 3) := by decide +kernel
theorem dX11_duchy_56 : decode cX11_duchy 56 = .ok (.aload_n 0, 1) := by decide +kernel
theorem dX11_duchy_57 : decode cX11_duchy 57 = .ok (.iconst 0, 1) := by decide +kernel
theorem dX11_duchy_58 : decode cX11_duchy 58 = .ok (.putfield 94, 3) := by decide +kernel
theorem dX11_duchy_61 : decode cX11_duchy 61 = .ok (.iload_n 1, 1) := by decide +kernel
theorem dX11_duchy_62 : decode cX11_duchy 62 = .ok (.ifCond .le 8, 3) := by decide +kernel
theorem dX11_duchy_65 : decode cX11_duchy 65 = .ok (.bipush (-10), 2) := by decide +kernel
theorem dX11_duchy_67 : decode cX11_duchy 67 = .ok (.iload_n 1, 1) := by decide +kernel
theorem dX11_duchy_68 : decode cX11_duchy 68 = .ok (.isub, 1) := by decide +kernel
theorem dX11_duchy_69 : decode cX11_duchy 69 = .ok (.ireturn, 1) := by decide +kernel
theorem dX11_duchy_70 : decode cX11_duchy 70 = .ok (.aload_n 0, 1) := by decide +kernel
theorem dX11_duchy_71 : decode cX11_duchy 71 = .ok (.invokevirtual 167, 3) := by decide +kernel
theorem dX11_duchy_74 : decode cX11_duchy 74 = .ok (.aload_n 0, 1) := by decide +kernel
theorem dX11_duchy_75 : decode cX11_duchy 75 = .ok (.iconst 0, 1) := by decide +kernel
theorem dX11_duchy_76 : decode cX11_duchy 76 = .ok (.putfield 170, 3) := by decide +kernel
theorem dX11_duchy_79 : decode cX11_duchy 79 = .ok (.aload_n 0, 1) := by decide +kernel
theorem dX11_duchy_80 : decode cX11_duchy 80 = .ok (.iconst 0, 1) := by decide +kernel
theorem dX11_duchy_81 : decode cX11_duchy 81 = .ok (.putfield 173, 3) := by decide +kernel
theorem dX11_duchy_84 : decode cX11_duchy 84 = .ok (.aload_n 0, 1) := by decide +kernel
theorem dX11_duchy_85 : decode cX11_duchy 85 = .ok (.iconst 0, 1) := by decide +kernel
theorem dX11_duchy_86 : decode cX11_duchy 86 = .ok (.putfield 176, 3) := by decide +kernel
theorem dX11_duchy_89 : decode cX11_duchy 89 = .ok (.aload_n 0, 1) := by decide +kernel
theorem dX11_duchy_90 : decode cX11_duchy 90 = .ok (.getfield 74, 3) := by decide +kernel
theorem dX11_duchy_93 : decode cX11_duchy 93 = .ok (.iconst 0, 1) := by decide +kernel
theorem dX11_duchy_94 : decode cX11_duchy 94 = .ok (.iconst 0, 1) := by decide +kernel
theorem dX11_duchy_95 : decode cX11_duchy 95 = .ok (.bastore, 1) := by decide +kernel
theorem dX11_duchy_96 : decode cX11_duchy 96 = .ok (.aload_n 0, 1) := by decide +kernel
theorem dX11_duchy_97 : decode cX11_duchy 97 = .ok (.getfield 74, 3) := by decide +kernel
theorem dX11_duchy_100 : decode cX11_duchy 100 = .ok (.iconst 1, 1) := by decide +kernel
theorem dX11_duchy_101 : decode cX11_duchy 101 = .ok (.iconst 0, 1) := by decide +kernel
theorem dX11_duchy_102 : decode cX11_duchy 102 = .ok (.bastore, 1) := by decide +kernel
theorem dX11_duchy_103 : decode cX11_duchy 103 = .ok (.aload_n 0, 1) := by decide +kernel
theorem dX11_duchy_104 : decode cX11_duchy 104 = .ok (.getfield 81, 3) := by decide +kernel
theorem dX11_duchy_107 : decode cX11_duchy 107 = .ok (.ireturn, 1) := by decide +kernel
theorem dX11_fault_0 : decode cX11_fault 0 = .ok (.aload_n 0, 1) := by decide +kernel
theorem dX11_fault_1 : decode cX11_fault 1 = .ok (.getfield 31, 3) := by decide +kernel
theorem dX11_fault_4 : decode cX11_fault 4 = .ok (.ireturn, 1) := by decide +kernel
theorem dX11_sings_0 : decode cX11_sings 0 = .ok (.aload_n 0, 1) := by decide +kernel
theorem dX11_sings_1 : decode cX11_sings 1 = .ok (.getfield 25, 3) := by decide +kernel
theorem dX11_sings_4 : decode cX11_sings 4 = .ok (.bipush 14, 2) := by decide +kernel
theorem dX11_sings_6 : decode cX11_sings 6 = .ok (.iload_n 1, 1) := by decide +kernel
theorem dX11_sings_7 : decode cX11_sings 7 = .ok (.iadd, 1) := by decide +kernel
theorem dX11_sings_8 : decode cX11_sings 8 = .ok (.iaload, 1) := by decide +kernel
theorem dX11_sings_9 : decode cX11_sings 9 = .ok (.iconst (-1), 1) := by decide +kernel
theorem dX11_sings_10 : decode cX11_sings 10 = .ok (.if_icmp .eq 7, 3) := by decide +kernel
theorem dX11_sings_13 : decode cX11_sings 13 = .ok (.iconst 1, 1) := by decide +kernel
theorem dX11_sings_14 : decode cX11_sings 14 = .ok (.goto 4, 3) := by decide +kernel
theorem dX11_sings_17 : decode cX11_sings 17 = .ok (.iconst 0, 1) := by decide +kernel
theorem dX11_sings_18 : decode cX11_sings 18 = .ok (.ireturn, 1) := by decide +kernel
theorem dX11_inspectorsAt_0 : decode cX11_inspectorsAt 0 = .ok (.iconst 0, 1) := by decide +kernel
theorem dX11_inspectorsAt_1 : decode cX11_inspectorsAt 1 = .ok (.istore_n 2, 1) := by decide +kernel
theorem dX11_inspectorsAt_2 : decode cX11_inspectorsAt 2 = .ok (.iconst 0, 1) := by decide +kernel
theorem dX11_inspectorsAt_3 : decode cX11_inspectorsAt 3 = .ok (.istore_n 3, 1) := by decide +kernel
theorem dX11_inspectorsAt_4 : decode cX11_inspectorsAt 4 = .ok (.iload_n 3, 1) := by decide +kernel
theorem dX11_inspectorsAt_5 : decode cX11_inspectorsAt 5 = .ok (.aload_n 0, 1) := by decide +kernel
theorem dX11_inspectorsAt_6 : decode cX11_inspectorsAt 6 = .ok (.getfield 153, 3) := by decide +kernel
theorem dX11_inspectorsAt_9 : decode cX11_inspectorsAt 9 = .ok (.if_icmp .ge 30, 3) := by decide +kernel
theorem dX11_inspectorsAt_12 : decode cX11_inspectorsAt 12 = .ok (.iload_n 2, 1) := by decide +kernel
theorem dX11_inspectorsAt_13 : decode cX11_inspectorsAt 13 = .ok (.aload_n 0, 1) := by decide +kernel
theorem dX11_inspectorsAt_14 : decode cX11_inspectorsAt 14 = .ok (.getfield 25, 3) := by decide +kernel
theorem dX11_inspectorsAt_17 : decode cX11_inspectorsAt 17 = .ok (.bipush 21, 2) := by decide +kernel
theorem dX11_inspectorsAt_19 : decode cX11_inspectorsAt 19 = .ok (.iload_n 3, 1) := by decide +kernel
theorem dX11_inspectorsAt_20 : decode cX11_inspectorsAt 20 = .ok (.iadd, 1) := by decide +kernel
theorem dX11_inspectorsAt_21 : decode cX11_inspectorsAt 21 = .ok (.iaload, 1) := by decide +kernel
theorem dX11_inspectorsAt_22 : decode cX11_inspectorsAt 22 = .ok (.iload_n 1, 1) := by decide +kernel
theorem dX11_inspectorsAt_23 : decode cX11_inspectorsAt 23 = .ok (.if_icmp .ne 7, 3) := by decide +kernel
theorem dX11_inspectorsAt_26 : decode cX11_inspectorsAt 26 = .ok (.iconst 1, 1) := by decide +kernel
theorem dX11_inspectorsAt_27 : decode cX11_inspectorsAt 27 = .ok (.goto 4, 3) := by decide +kernel
theorem dX11_inspectorsAt_30 : decode cX11_inspectorsAt 30 = .ok (.iconst 0, 1) := by decide +kernel
theorem dX11_inspectorsAt_31 : decode cX11_inspectorsAt 31 = .ok (.iadd, 1) := by decide +kernel
theorem dX11_inspectorsAt_32 : decode cX11_inspectorsAt 32 = .ok (.istore_n 2, 1) := by decide +kernel
theorem dX11_inspectorsAt_33 : decode cX11_inspectorsAt 33 = .ok (.iinc 3 1, 3) := by decide +kernel
theorem dX11_inspectorsAt_36 : decode cX11_inspectorsAt 36 = .ok (.goto (-32), 3) := by decide +kernel
theorem dX11_inspectorsAt_39 : decode cX11_inspectorsAt 39 = .ok (.iload_n 2, 1) := by decide +kernel
theorem dX11_inspectorsAt_40 : decode cX11_inspectorsAt 40 = .ok (.ireturn, 1) := by decide +kernel
theorem dX11_owesBy_0 : decode cX11_owesBy 0 = .ok (.iload 4, 2) := by decide +kernel
theorem dX11_owesBy_2 : decode cX11_owesBy 2 = .ok (.iload_n 3, 1) := by decide +kernel
theorem dX11_owesBy_3 : decode cX11_owesBy 3 = .ok (.imul, 1) := by decide +kernel
theorem dX11_owesBy_4 : decode cX11_owesBy 4 = .ok (.iload_n 3, 1) := by decide +kernel
theorem dX11_owesBy_5 : decode cX11_owesBy 5 = .ok (.imul, 1) := by decide +kernel
theorem dX11_owesBy_6 : decode cX11_owesBy 6 = .ok (.istore 5, 2) := by decide +kernel
theorem dX11_owesBy_8 : decode cX11_owesBy 8 = .ok (.aload_n 0, 1) := by decide +kernel
theorem dX11_owesBy_9 : decode cX11_owesBy 9 = .ok (.getfield 7, 3) := by decide +kernel
theorem dX11_owesBy_12 : decode cX11_owesBy 12 = .ok (.iload_n 1, 1) := by decide +kernel
theorem dX11_owesBy_13 : decode cX11_owesBy 13 = .ok (.iaload, 1) := by decide +kernel
theorem dX11_owesBy_14 : decode cX11_owesBy 14 = .ok (.tableswitch 51 1 3 #[26, 31, 33], 26) := by decide +kernel
theorem dX11_owesBy_40 : decode cX11_owesBy 40 = .ok (.iconst 2, 1) := by decide +kernel
theorem dX11_owesBy_41 : decode cX11_owesBy 41 = .ok (.iload 5, 2) := by decide +kernel
theorem dX11_owesBy_43 : decode cX11_owesBy 43 = .ok (.imul, 1) := by decide +kernel
theorem dX11_owesBy_44 : decode cX11_owesBy 44 = .ok (.ireturn, 1) := by decide +kernel
theorem dX11_owesBy_45 : decode cX11_owesBy 45 = .ok (.iconst 0, 1) := by decide +kernel
theorem dX11_owesBy_46 : decode cX11_owesBy 46 = .ok (.ireturn, 1) := by decide +kernel
theorem dX11_owesBy_47 : decode cX11_owesBy 47 = .ok (.aload_n 0, 1) := by decide +kernel
theorem dX11_owesBy_48 : decode cX11_owesBy 48 = .ok (.iload_n 2, 1) := by decide +kernel
theorem dX11_owesBy_49 : decode cX11_owesBy 49 = .ok (.invokevirtual 179, 3) := by decide +kernel
theorem dX11_owesBy_52 : decode cX11_owesBy 52 = .ok (.ifCond .le 8, 3) := by decide +kernel
theorem dX11_owesBy_55 : decode cX11_owesBy 55 = .ok (.iload 5, 2) := by decide +kernel
theorem dX11_owesBy_57 : decode cX11_owesBy 57 = .ok (.goto 7, 3) := by decide +kernel
theorem dX11_owesBy_60 : decode cX11_owesBy 60 = .ok (.iload 5, 2) := by decide +kernel
theorem dX11_owesBy_62 : decode cX11_owesBy 62 = .ok (.iconst 2, 1) := by decide +kernel
theorem dX11_owesBy_63 : decode cX11_owesBy 63 = .ok (.idiv, 1) := by decide +kernel
theorem dX11_owesBy_64 : decode cX11_owesBy 64 = .ok (.ireturn, 1) := by decide +kernel
theorem dX11_owesBy_65 : decode cX11_owesBy 65 = .ok (.iload 5, 2) := by decide +kernel
theorem dX11_owesBy_67 : decode cX11_owesBy 67 = .ok (.ireturn, 1) := by decide +kernel
theorem dX11_owesOf_0 : decode cX11_owesOf 0 = .ok (.aload_n 0, 1) := by decide +kernel
theorem dX11_owesOf_1 : decode cX11_owesOf 1 = .ok (.iload_n 1, 1) := by decide +kernel
theorem dX11_owesOf_2 : decode cX11_owesOf 2 = .ok (.invokevirtual 183, 3) := by decide +kernel
theorem dX11_owesOf_5 : decode cX11_owesOf 5 = .ok (.ifCond .eq 33, 3) := by decide +kernel
theorem dX11_owesOf_8 : decode cX11_owesOf 8 = .ok (.aload_n 0, 1) := by decide +kernel
theorem dX11_owesOf_9 : decode cX11_owesOf 9 = .ok (.iload_n 1, 1) := by decide +kernel
theorem dX11_owesOf_10 : decode cX11_owesOf 10 = .ok (.aload_n 0, 1) := by decide +kernel
theorem dX11_owesOf_11 : decode cX11_owesOf 11 = .ok (.getfield 25, 3) := by decide +kernel
theorem dX11_owesOf_14 : decode cX11_owesOf 14 = .ok (.iload_n 1, 1) := by decide +kernel
theorem dX11_owesOf_15 : decode cX11_owesOf 15 = .ok (.iaload, 1) := by decide +kernel
theorem dX11_owesOf_16 : decode cX11_owesOf 16 = .ok (.aload_n 0, 1) := by decide +kernel
theorem dX11_owesOf_17 : decode cX11_owesOf 17 = .ok (.getfield 25, 3) := by decide +kernel
theorem dX11_owesOf_20 : decode cX11_owesOf 20 = .ok (.bipush 14, 2) := by decide +kernel
theorem dX11_owesOf_22 : decode cX11_owesOf 22 = .ok (.iload_n 1, 1) := by decide +kernel
theorem dX11_owesOf_23 : decode cX11_owesOf 23 = .ok (.iadd, 1) := by decide +kernel
theorem dX11_owesOf_24 : decode cX11_owesOf 24 = .ok (.iaload, 1) := by decide +kernel
theorem dX11_owesOf_25 : decode cX11_owesOf 25 = .ok (.aload_n 0, 1) := by decide +kernel
theorem dX11_owesOf_26 : decode cX11_owesOf 26 = .ok (.getfield 25, 3) := by decide +kernel
theorem dX11_owesOf_29 : decode cX11_owesOf 29 = .ok (.bipush 25, 2) := by decide +kernel
theorem dX11_owesOf_31 : decode cX11_owesOf 31 = .ok (.iaload, 1) := by decide +kernel
theorem dX11_owesOf_32 : decode cX11_owesOf 32 = .ok (.invokevirtual 187, 3) := by decide +kernel
theorem dX11_owesOf_35 : decode cX11_owesOf 35 = .ok (.goto 4, 3) := by decide +kernel
theorem dX11_owesOf_38 : decode cX11_owesOf 38 = .ok (.iconst 0, 1) := by decide +kernel
theorem dX11_owesOf_39 : decode cX11_owesOf 39 = .ok (.ireturn, 1) := by decide +kernel
theorem dX11_whoIsIn_0 : decode cX11_whoIsIn 0 = .ok (.iconst 0, 1) := by decide +kernel
theorem dX11_whoIsIn_1 : decode cX11_whoIsIn 1 = .ok (.istore_n 2, 1) := by decide +kernel
theorem dX11_whoIsIn_2 : decode cX11_whoIsIn 2 = .ok (.iconst 0, 1) := by decide +kernel
theorem dX11_whoIsIn_3 : decode cX11_whoIsIn 3 = .ok (.istore_n 3, 1) := by decide +kernel
theorem dX11_whoIsIn_4 : decode cX11_whoIsIn 4 = .ok (.iload_n 3, 1) := by decide +kernel
theorem dX11_whoIsIn_5 : decode cX11_whoIsIn 5 = .ok (.aload_n 0, 1) := by decide +kernel
theorem dX11_whoIsIn_6 : decode cX11_whoIsIn 6 = .ok (.getfield 81, 3) := by decide +kernel
theorem dX11_whoIsIn_9 : decode cX11_whoIsIn 9 = .ok (.if_icmp .ge 29, 3) := by decide +kernel
theorem dX11_whoIsIn_12 : decode cX11_whoIsIn 12 = .ok (.iload_n 2, 1) := by decide +kernel
theorem dX11_whoIsIn_13 : decode cX11_whoIsIn 13 = .ok (.aload_n 0, 1) := by decide +kernel
theorem dX11_whoIsIn_14 : decode cX11_whoIsIn 14 = .ok (.getfield 25, 3) := by decide +kernel
theorem dX11_whoIsIn_17 : decode cX11_whoIsIn 17 = .ok (.iload_n 3, 1) := by decide +kernel
theorem dX11_whoIsIn_18 : decode cX11_whoIsIn 18 = .ok (.iaload, 1) := by decide +kernel
theorem dX11_whoIsIn_19 : decode cX11_whoIsIn 19 = .ok (.iload_n 1, 1) := by decide +kernel
theorem dX11_whoIsIn_20 : decode cX11_whoIsIn 20 = .ok (.if_icmp .ne 9, 3) := by decide +kernel
theorem dX11_whoIsIn_23 : decode cX11_whoIsIn 23 = .ok (.iconst 1, 1) := by decide +kernel
theorem dX11_whoIsIn_24 : decode cX11_whoIsIn 24 = .ok (.iload_n 3, 1) := by decide +kernel
theorem dX11_whoIsIn_25 : decode cX11_whoIsIn 25 = .ok (.ishl, 1) := by decide +kernel
theorem dX11_whoIsIn_26 : decode cX11_whoIsIn 26 = .ok (.goto 4, 3) := by decide +kernel
theorem dX11_whoIsIn_29 : decode cX11_whoIsIn 29 = .ok (.iconst 0, 1) := by decide +kernel
theorem dX11_whoIsIn_30 : decode cX11_whoIsIn 30 = .ok (.ior, 1) := by decide +kernel
theorem dX11_whoIsIn_31 : decode cX11_whoIsIn 31 = .ok (.istore_n 2, 1) := by decide +kernel
theorem dX11_whoIsIn_32 : decode cX11_whoIsIn 32 = .ok (.iinc 3 1, 3) := by decide +kernel
theorem dX11_whoIsIn_35 : decode cX11_whoIsIn 35 = .ok (.goto (-31), 3) := by decide +kernel
theorem dX11_whoIsIn_38 : decode cX11_whoIsIn 38 = .ok (.iload_n 2, 1) := by decide +kernel
theorem dX11_whoIsIn_39 : decode cX11_whoIsIn 39 = .ok (.ireturn, 1) := by decide +kernel
theorem dX11_singingOnes_0 : decode cX11_singingOnes 0 = .ok (.iconst 0, 1) := by decide +kernel
theorem dX11_singingOnes_1 : decode cX11_singingOnes 1 = .ok (.istore_n 1, 1) := by decide +kernel
theorem dX11_singingOnes_2 : decode cX11_singingOnes 2 = .ok (.iconst 0, 1) := by decide +kernel
theorem dX11_singingOnes_3 : decode cX11_singingOnes 3 = .ok (.istore_n 2, 1) := by decide +kernel
theorem dX11_singingOnes_4 : decode cX11_singingOnes 4 = .ok (.iload_n 2, 1) := by decide +kernel
theorem dX11_singingOnes_5 : decode cX11_singingOnes 5 = .ok (.aload_n 0, 1) := by decide +kernel
theorem dX11_singingOnes_6 : decode cX11_singingOnes 6 = .ok (.getfield 81, 3) := by decide +kernel
theorem dX11_singingOnes_9 : decode cX11_singingOnes 9 = .ok (.if_icmp .ge 27, 3) := by decide +kernel
theorem dX11_singingOnes_12 : decode cX11_singingOnes 12 = .ok (.iload_n 1, 1) := by decide +kernel
theorem dX11_singingOnes_13 : decode cX11_singingOnes 13 = .ok (.aload_n 0, 1) := by decide +kernel
theorem dX11_singingOnes_14 : decode cX11_singingOnes 14 = .ok (.iload_n 2, 1) := by decide +kernel
theorem dX11_singingOnes_15 : decode cX11_singingOnes 15 = .ok (.invokevirtual 183, 3) := by decide +kernel
theorem dX11_singingOnes_18 : decode cX11_singingOnes 18 = .ok (.ifCond .eq 9, 3) := by decide +kernel
theorem dX11_singingOnes_21 : decode cX11_singingOnes 21 = .ok (.iconst 1, 1) := by decide +kernel
theorem dX11_singingOnes_22 : decode cX11_singingOnes 22 = .ok (.iload_n 2, 1) := by decide +kernel
theorem dX11_singingOnes_23 : decode cX11_singingOnes 23 = .ok (.ishl, 1) := by decide +kernel
theorem dX11_singingOnes_24 : decode cX11_singingOnes 24 = .ok (.goto 4, 3) := by decide +kernel
theorem dX11_singingOnes_27 : decode cX11_singingOnes 27 = .ok (.iconst 0, 1) := by decide +kernel
theorem dX11_singingOnes_28 : decode cX11_singingOnes 28 = .ok (.ior, 1) := by decide +kernel
theorem dX11_singingOnes_29 : decode cX11_singingOnes 29 = .ok (.istore_n 1, 1) := by decide +kernel
theorem dX11_singingOnes_30 : decode cX11_singingOnes 30 = .ok (.iinc 2 1, 3) := by decide +kernel
theorem dX11_singingOnes_33 : decode cX11_singingOnes 33 = .ok (.goto (-29), 3) := by decide +kernel
theorem dX11_singingOnes_36 : decode cX11_singingOnes 36 = .ok (.iload_n 1, 1) := by decide +kernel
theorem dX11_singingOnes_37 : decode cX11_singingOnes 37 = .ok (.ireturn, 1) := by decide +kernel
theorem dX11_voicesIn_0 : decode cX11_voicesIn 0 = .ok (.aload_n 0, 1) := by decide +kernel
theorem dX11_voicesIn_1 : decode cX11_voicesIn 1 = .ok (.iload_n 1, 1) := by decide +kernel
theorem dX11_voicesIn_2 : decode cX11_voicesIn 2 = .ok (.invokevirtual 191, 3) := by decide +kernel
theorem dX11_voicesIn_5 : decode cX11_voicesIn 5 = .ok (.aload_n 0, 1) := by decide +kernel
theorem dX11_voicesIn_6 : decode cX11_voicesIn 6 = .ok (.invokevirtual 194, 3) := by decide +kernel
theorem dX11_voicesIn_9 : decode cX11_voicesIn 9 = .ok (.iand, 1) := by decide +kernel
theorem dX11_voicesIn_10 : decode cX11_voicesIn 10 = .ok (.invokestatic 197, 3) := by decide +kernel
theorem dX11_voicesIn_13 : decode cX11_voicesIn 13 = .ok (.ireturn, 1) := by decide +kernel
theorem dX11_owedIn_0 : decode cX11_owedIn 0 = .ok (.iconst 0, 1) := by decide +kernel
theorem dX11_owedIn_1 : decode cX11_owedIn 1 = .ok (.istore_n 2, 1) := by decide +kernel
theorem dX11_owedIn_2 : decode cX11_owedIn 2 = .ok (.iconst 0, 1) := by decide +kernel
theorem dX11_owedIn_3 : decode cX11_owedIn 3 = .ok (.istore_n 3, 1) := by decide +kernel
theorem dX11_owedIn_4 : decode cX11_owedIn 4 = .ok (.iload_n 3, 1) := by decide +kernel
theorem dX11_owedIn_5 : decode cX11_owedIn 5 = .ok (.aload_n 0, 1) := by decide +kernel
theorem dX11_owedIn_6 : decode cX11_owedIn 6 = .ok (.getfield 81, 3) := by decide +kernel
theorem dX11_owedIn_9 : decode cX11_owedIn 9 = .ok (.if_icmp .ge 31, 3) := by decide +kernel
theorem dX11_owedIn_12 : decode cX11_owedIn 12 = .ok (.iload_n 2, 1) := by decide +kernel
theorem dX11_owedIn_13 : decode cX11_owedIn 13 = .ok (.aload_n 0, 1) := by decide +kernel
theorem dX11_owedIn_14 : decode cX11_owedIn 14 = .ok (.getfield 25, 3) := by decide +kernel
theorem dX11_owedIn_17 : decode cX11_owedIn 17 = .ok (.iload_n 3, 1) := by decide +kernel
theorem dX11_owedIn_18 : decode cX11_owedIn 18 = .ok (.iaload, 1) := by decide +kernel
theorem dX11_owedIn_19 : decode cX11_owedIn 19 = .ok (.iload_n 1, 1) := by decide +kernel
theorem dX11_owedIn_20 : decode cX11_owedIn 20 = .ok (.if_icmp .ne 11, 3) := by decide +kernel
theorem dX11_owedIn_23 : decode cX11_owedIn 23 = .ok (.aload_n 0, 1) := by decide +kernel
theorem dX11_owedIn_24 : decode cX11_owedIn 24 = .ok (.iload_n 3, 1) := by decide +kernel
theorem dX11_owedIn_25 : decode cX11_owedIn 25 = .ok (.invokevirtual 200, 3) := by decide +kernel
theorem dX11_owedIn_28 : decode cX11_owedIn 28 = .ok (.goto 4, 3) := by decide +kernel
theorem dX11_owedIn_31 : decode cX11_owedIn 31 = .ok (.iconst 0, 1) := by decide +kernel
theorem dX11_owedIn_32 : decode cX11_owedIn 32 = .ok (.iadd, 1) := by decide +kernel
theorem dX11_owedIn_33 : decode cX11_owedIn 33 = .ok (.istore_n 2, 1) := by decide +kernel
theorem dX11_owedIn_34 : decode cX11_owedIn 34 = .ok (.iinc 3 1, 3) := by decide +kernel
theorem dX11_owedIn_37 : decode cX11_owedIn 37 = .ok (.goto (-33), 3) := by decide +kernel
theorem dX11_owedIn_40 : decode cX11_owedIn 40 = .ok (.iload_n 2, 1) := by decide +kernel
theorem dX11_owedIn_41 : decode cX11_owedIn 41 = .ok (.ireturn, 1) := by decide +kernel
theorem dX11_owedByAll_0 : decode cX11_owedByAll 0 = .ok (.iconst 0, 1) := by decide +kernel
theorem dX11_owedByAll_1 : decode cX11_owedByAll 1 = .ok (.istore_n 1, 1) := by decide +kernel
theorem dX11_owedByAll_2 : decode cX11_owedByAll 2 = .ok (.iconst 0, 1) := by decide +kernel
theorem dX11_owedByAll_3 : decode cX11_owedByAll 3 = .ok (.istore_n 2, 1) := by decide +kernel
theorem dX11_owedByAll_4 : decode cX11_owedByAll 4 = .ok (.iload_n 2, 1) := by decide +kernel
theorem dX11_owedByAll_5 : decode cX11_owedByAll 5 = .ok (.aload_n 0, 1) := by decide +kernel
theorem dX11_owedByAll_6 : decode cX11_owedByAll 6 = .ok (.getfield 81, 3) := by decide +kernel
theorem dX11_owedByAll_9 : decode cX11_owedByAll 9 = .ok (.if_icmp .ge 17, 3) := by decide +kernel
theorem dX11_owedByAll_12 : decode cX11_owedByAll 12 = .ok (.iload_n 1, 1) := by decide +kernel
theorem dX11_owedByAll_13 : decode cX11_owedByAll 13 = .ok (.aload_n 0, 1) := by decide +kernel
theorem dX11_owedByAll_14 : decode cX11_owedByAll 14 = .ok (.iload_n 2, 1) := by decide +kernel
theorem dX11_owedByAll_15 : decode cX11_owedByAll 15 = .ok (.invokevirtual 200, 3) := by decide +kernel
theorem dX11_owedByAll_18 : decode cX11_owedByAll 18 = .ok (.iadd, 1) := by decide +kernel
theorem dX11_owedByAll_19 : decode cX11_owedByAll 19 = .ok (.istore_n 1, 1) := by decide +kernel
theorem dX11_owedByAll_20 : decode cX11_owedByAll 20 = .ok (.iinc 2 1, 3) := by decide +kernel
theorem dX11_owedByAll_23 : decode cX11_owedByAll 23 = .ok (.goto (-19), 3) := by decide +kernel
theorem dX11_owedByAll_26 : decode cX11_owedByAll 26 = .ok (.iload_n 1, 1) := by decide +kernel
theorem dX11_owedByAll_27 : decode cX11_owedByAll 27 = .ok (.ireturn, 1) := by decide +kernel
theorem dX11_owedBy_0 : decode cX11_owedBy 0 = .ok (.iconst 0, 1) := by decide +kernel
theorem dX11_owedBy_1 : decode cX11_owedBy 1 = .ok (.istore_n 3, 1) := by decide +kernel
theorem dX11_owedBy_2 : decode cX11_owedBy 2 = .ok (.iconst 0, 1) := by decide +kernel
theorem dX11_owedBy_3 : decode cX11_owedBy 3 = .ok (.istore 4, 2) := by decide +kernel
theorem dX11_owedBy_5 : decode cX11_owedBy 5 = .ok (.iconst 0, 1) := by decide +kernel
theorem dX11_owedBy_6 : decode cX11_owedBy 6 = .ok (.istore 5, 2) := by decide +kernel
theorem dX11_owedBy_8 : decode cX11_owedBy 8 = .ok (.iload 5, 2) := by decide +kernel
theorem dX11_owedBy_10 : decode cX11_owedBy 10 = .ok (.aload_n 0, 1) := by decide +kernel
theorem dX11_owedBy_11 : decode cX11_owedBy 11 = .ok (.getfield 81, 3) := by decide +kernel
theorem dX11_owedBy_14 : decode cX11_owedBy 14 = .ok (.if_icmp .ge 40, 3) := by decide +kernel
theorem dX11_owedBy_17 : decode cX11_owedBy 17 = .ok (.iload_n 1, 1) := by decide +kernel
theorem dX11_owedBy_18 : decode cX11_owedBy 18 = .ok (.iload 5, 2) := by decide +kernel
theorem dX11_owedBy_20 : decode cX11_owedBy 20 = .ok (.invokestatic 203, 3) := by decide +kernel
theorem dX11_owedBy_23 : decode cX11_owedBy 23 = .ok (.ifCond .eq 25, 3) := by decide +kernel
theorem dX11_owedBy_26 : decode cX11_owedBy 26 = .ok (.iload_n 3, 1) := by decide +kernel
theorem dX11_owedBy_27 : decode cX11_owedBy 27 = .ok (.aload_n 0, 1) := by decide +kernel
theorem dX11_owedBy_28 : decode cX11_owedBy 28 = .ok (.iload 5, 2) := by decide +kernel
theorem dX11_owedBy_30 : decode cX11_owedBy 30 = .ok (.iload_n 2, 1) := by decide +kernel
theorem dX11_owedBy_31 : decode cX11_owedBy 31 = .ok (.iload 4, 2) := by decide +kernel
theorem dX11_owedBy_33 : decode cX11_owedBy 33 = .ok (.aload_n 0, 1) := by decide +kernel
theorem dX11_owedBy_34 : decode cX11_owedBy 34 = .ok (.getfield 25, 3) := by decide +kernel
theorem dX11_owedBy_37 : decode cX11_owedBy 37 = .ok (.bipush 25, 2) := by decide +kernel
theorem dX11_owedBy_39 : decode cX11_owedBy 39 = .ok (.iaload, 1) := by decide +kernel
theorem dX11_owedBy_40 : decode cX11_owedBy 40 = .ok (.invokevirtual 187, 3) := by decide +kernel
theorem dX11_owedBy_43 : decode cX11_owedBy 43 = .ok (.iadd, 1) := by decide +kernel
theorem dX11_owedBy_44 : decode cX11_owedBy 44 = .ok (.istore_n 3, 1) := by decide +kernel
theorem dX11_owedBy_45 : decode cX11_owedBy 45 = .ok (.iinc 4 1, 3) := by decide +kernel
theorem dX11_owedBy_48 : decode cX11_owedBy 48 = .ok (.iinc 5 1, 3) := by decide +kernel
theorem dX11_owedBy_51 : decode cX11_owedBy 51 = .ok (.goto (-43), 3) := by decide +kernel
theorem dX11_owedBy_54 : decode cX11_owedBy 54 = .ok (.iload_n 3, 1) := by decide +kernel
theorem dX11_owedBy_55 : decode cX11_owedBy 55 = .ok (.ireturn, 1) := by decide +kernel
theorem dX11_deafPlaces_0 : decode cX11_deafPlaces 0 = .ok (.iconst 0, 1) := by decide +kernel
theorem dX11_deafPlaces_1 : decode cX11_deafPlaces 1 = .ok (.istore_n 1, 1) := by decide +kernel
theorem dX11_deafPlaces_2 : decode cX11_deafPlaces 2 = .ok (.iconst 0, 1) := by decide +kernel
theorem dX11_deafPlaces_3 : decode cX11_deafPlaces 3 = .ok (.istore_n 2, 1) := by decide +kernel
theorem dX11_deafPlaces_4 : decode cX11_deafPlaces 4 = .ok (.iload_n 2, 1) := by decide +kernel
theorem dX11_deafPlaces_5 : decode cX11_deafPlaces 5 = .ok (.aload_n 0, 1) := by decide +kernel
theorem dX11_deafPlaces_6 : decode cX11_deafPlaces 6 = .ok (.getfield 88, 3) := by decide +kernel
theorem dX11_deafPlaces_9 : decode cX11_deafPlaces 9 = .ok (.if_icmp .ge 27, 3) := by decide +kernel
theorem dX11_deafPlaces_12 : decode cX11_deafPlaces 12 = .ok (.iload_n 1, 1) := by decide +kernel
theorem dX11_deafPlaces_13 : decode cX11_deafPlaces 13 = .ok (.aload_n 0, 1) := by decide +kernel
theorem dX11_deafPlaces_14 : decode cX11_deafPlaces 14 = .ok (.iload_n 2, 1) := by decide +kernel
theorem dX11_deafPlaces_15 : decode cX11_deafPlaces 15 = .ok (.invokevirtual 179, 3) := by decide +kernel
theorem dX11_deafPlaces_18 : decode cX11_deafPlaces 18 = .ok (.ifCond .ne 9, 3) := by decide +kernel
theorem dX11_deafPlaces_21 : decode cX11_deafPlaces 21 = .ok (.iconst 1, 1) := by decide +kernel
theorem dX11_deafPlaces_22 : decode cX11_deafPlaces 22 = .ok (.iload_n 2, 1) := by decide +kernel
theorem dX11_deafPlaces_23 : decode cX11_deafPlaces 23 = .ok (.ishl, 1) := by decide +kernel
theorem dX11_deafPlaces_24 : decode cX11_deafPlaces 24 = .ok (.goto 4, 3) := by decide +kernel
theorem dX11_deafPlaces_27 : decode cX11_deafPlaces 27 = .ok (.iconst 0, 1) := by decide +kernel
theorem dX11_deafPlaces_28 : decode cX11_deafPlaces 28 = .ok (.ior, 1) := by decide +kernel
theorem dX11_deafPlaces_29 : decode cX11_deafPlaces 29 = .ok (.istore_n 1, 1) := by decide +kernel
theorem dX11_deafPlaces_30 : decode cX11_deafPlaces 30 = .ok (.iinc 2 1, 3) := by decide +kernel
theorem dX11_deafPlaces_33 : decode cX11_deafPlaces 33 = .ok (.goto (-29), 3) := by decide +kernel
theorem dX11_deafPlaces_36 : decode cX11_deafPlaces 36 = .ok (.iload_n 1, 1) := by decide +kernel
theorem dX11_deafPlaces_37 : decode cX11_deafPlaces 37 = .ok (.ireturn, 1) := by decide +kernel
theorem dX11_richest_0 : decode cX11_richest 0 = .ok (.iconst (-1), 1) := by decide +kernel
theorem dX11_richest_1 : decode cX11_richest 1 = .ok (.istore_n 1, 1) := by decide +kernel
theorem dX11_richest_2 : decode cX11_richest 2 = .ok (.iconst 0, 1) := by decide +kernel
theorem dX11_richest_3 : decode cX11_richest 3 = .ok (.istore_n 2, 1) := by decide +kernel
theorem dX11_richest_4 : decode cX11_richest 4 = .ok (.iload_n 2, 1) := by decide +kernel
theorem dX11_richest_5 : decode cX11_richest 5 = .ok (.aload_n 0, 1) := by decide +kernel
theorem dX11_richest_6 : decode cX11_richest 6 = .ok (.getfield 81, 3) := by decide +kernel
theorem dX11_richest_9 : decode cX11_richest 9 = .ok (.if_icmp .ge 40, 3) := by decide +kernel
theorem dX11_richest_12 : decode cX11_richest 12 = .ok (.iload_n 1, 1) := by decide +kernel
theorem dX11_richest_13 : decode cX11_richest 13 = .ok (.ifCond .lt 24, 3) := by decide +kernel
theorem dX11_richest_16 : decode cX11_richest 16 = .ok (.aload_n 0, 1) := by decide +kernel
theorem dX11_richest_17 : decode cX11_richest 17 = .ok (.getfield 25, 3) := by decide +kernel
theorem dX11_richest_20 : decode cX11_richest 20 = .ok (.bipush 7, 2) := by decide +kernel
theorem dX11_richest_22 : decode cX11_richest 22 = .ok (.iload_n 2, 1) := by decide +kernel
theorem dX11_richest_23 : decode cX11_richest 23 = .ok (.iadd, 1) := by decide +kernel
theorem dX11_richest_24 : decode cX11_richest 24 = .ok (.iaload, 1) := by decide +kernel
theorem dX11_richest_25 : decode cX11_richest 25 = .ok (.aload_n 0, 1) := by decide +kernel
theorem dX11_richest_26 : decode cX11_richest 26 = .ok (.getfield 25, 3) := by decide +kernel
theorem dX11_richest_29 : decode cX11_richest 29 = .ok (.bipush 7, 2) := by decide +kernel
theorem dX11_richest_31 : decode cX11_richest 31 = .ok (.iload_n 1, 1) := by decide +kernel
theorem dX11_richest_32 : decode cX11_richest 32 = .ok (.iadd, 1) := by decide +kernel
theorem dX11_richest_33 : decode cX11_richest 33 = .ok (.iaload, 1) := by decide +kernel
theorem dX11_richest_34 : decode cX11_richest 34 = .ok (.if_icmp .le 7, 3) := by decide +kernel
theorem dX11_richest_37 : decode cX11_richest 37 = .ok (.iload_n 2, 1) := by decide +kernel
theorem dX11_richest_38 : decode cX11_richest 38 = .ok (.goto 4, 3) := by decide +kernel
theorem dX11_richest_41 : decode cX11_richest 41 = .ok (.iload_n 1, 1) := by decide +kernel
theorem dX11_richest_42 : decode cX11_richest 42 = .ok (.istore_n 1, 1) := by decide +kernel
theorem dX11_richest_43 : decode cX11_richest 43 = .ok (.iinc 2 1, 3) := by decide +kernel
theorem dX11_richest_46 : decode cX11_richest 46 = .ok (.goto (-42), 3) := by decide +kernel
theorem dX11_richest_49 : decode cX11_richest 49 = .ok (.iload_n 1, 1) := by decide +kernel
theorem dX11_richest_50 : decode cX11_richest 50 = .ok (.ireturn, 1) := by decide +kernel
theorem dX11_fewest_0 : decode cX11_fewest 0 = .ok (.iconst (-1), 1) := by decide +kernel
theorem dX11_fewest_1 : decode cX11_fewest 1 = .ok (.istore_n 1, 1) := by decide +kernel
theorem dX11_fewest_2 : decode cX11_fewest 2 = .ok (.iconst 0, 1) := by decide +kernel
theorem dX11_fewest_3 : decode cX11_fewest 3 = .ok (.istore_n 2, 1) := by decide +kernel
theorem dX11_fewest_4 : decode cX11_fewest 4 = .ok (.iload_n 2, 1) := by decide +kernel
theorem dX11_fewest_5 : decode cX11_fewest 5 = .ok (.iconst 1, 1) := by decide +kernel
theorem dX11_fewest_6 : decode cX11_fewest 6 = .ok (.aload_n 0, 1) := by decide +kernel
theorem dX11_fewest_7 : decode cX11_fewest 7 = .ok (.getfield 81, 3) := by decide +kernel
theorem dX11_fewest_10 : decode cX11_fewest 10 = .ok (.ishl, 1) := by decide +kernel
theorem dX11_fewest_11 : decode cX11_fewest 11 = .ok (.if_icmp .ge 104, 3) := by decide +kernel
theorem dX11_fewest_14 : decode cX11_fewest 14 = .ok (.aload_n 0, 1) := by decide +kernel
theorem dX11_fewest_15 : decode cX11_fewest 15 = .ok (.getfield 150, 3) := by decide +kernel
theorem dX11_fewest_18 : decode cX11_fewest 18 = .ok (.ifCond .le 97, 3) := by decide +kernel
theorem dX11_fewest_21 : decode cX11_fewest 21 = .ok (.iconst 0, 1) := by decide +kernel
theorem dX11_fewest_22 : decode cX11_fewest 22 = .ok (.istore_n 3, 1) := by decide +kernel
theorem dX11_fewest_23 : decode cX11_fewest 23 = .ok (.iconst 0, 1) := by decide +kernel
theorem dX11_fewest_24 : decode cX11_fewest 24 = .ok (.istore 4, 2) := by decide +kernel
theorem dX11_fewest_26 : decode cX11_fewest 26 = .ok (.iload 4, 2) := by decide +kernel
theorem dX11_fewest_28 : decode cX11_fewest 28 = .ok (.aload_n 0, 1) := by decide +kernel
theorem dX11_fewest_29 : decode cX11_fewest 29 = .ok (.getfield 81, 3) := by decide +kernel
theorem dX11_fewest_32 : decode cX11_fewest 32 = .ok (.if_icmp .ge 32, 3) := by decide +kernel
theorem dX11_fewest_35 : decode cX11_fewest 35 = .ok (.iload_n 3, 1) := by decide +kernel
theorem dX11_fewest_36 : decode cX11_fewest 36 = .ok (.iload_n 2, 1) := by decide +kernel
theorem dX11_fewest_37 : decode cX11_fewest 37 = .ok (.iload 4, 2) := by decide +kernel
theorem dX11_fewest_39 : decode cX11_fewest 39 = .ok (.invokestatic 203, 3) := by decide +kernel
theorem dX11_fewest_42 : decode cX11_fewest 42 = .ok (.ifCond .eq 13, 3) := by decide +kernel
theorem dX11_fewest_45 : decode cX11_fewest 45 = .ok (.aload_n 0, 1) := by decide +kernel
theorem dX11_fewest_46 : decode cX11_fewest 46 = .ok (.getfield 19, 3) := by decide +kernel
theorem dX11_fewest_49 : decode cX11_fewest 49 = .ok (.iload 4, 2) := by decide +kernel
theorem dX11_fewest_51 : decode cX11_fewest 51 = .ok (.iaload, 1) := by decide +kernel
theorem dX11_fewest_52 : decode cX11_fewest 52 = .ok (.goto 4, 3) := by decide +kernel
theorem dX11_fewest_55 : decode cX11_fewest 55 = .ok (.iconst 0, 1) := by decide +kernel
theorem dX11_fewest_56 : decode cX11_fewest 56 = .ok (.ior, 1) := by decide +kernel
theorem dX11_fewest_57 : decode cX11_fewest 57 = .ok (.istore_n 3, 1) := by decide +kernel
theorem dX11_fewest_58 : decode cX11_fewest 58 = .ok (.iinc 4 1, 3) := by decide +kernel
theorem dX11_fewest_61 : decode cX11_fewest 61 = .ok (.goto (-35), 3) := by decide +kernel
theorem dX11_fewest_64 : decode cX11_fewest 64 = .ok (.iload_n 1, 1) := by decide +kernel
theorem dX11_fewest_65 : decode cX11_fewest 65 = .ok (.ifCond .lt 14, 3) := by decide +kernel
theorem dX11_fewest_68 : decode cX11_fewest 68 = .ok (.iload_n 2, 1) := by decide +kernel
theorem dX11_fewest_69 : decode cX11_fewest 69 = .ok (.invokestatic 197, 3) := by decide +kernel
theorem dX11_fewest_72 : decode cX11_fewest 72 = .ok (.iload_n 1, 1) := by decide +kernel
theorem dX11_fewest_73 : decode cX11_fewest 73 = .ok (.invokestatic 197, 3) := by decide +kernel
theorem dX11_fewest_76 : decode cX11_fewest 76 = .ok (.if_icmp .ge 7, 3) := by decide +kernel
theorem dX11_fewest_79 : decode cX11_fewest 79 = .ok (.iconst 1, 1) := by decide +kernel
theorem dX11_fewest_80 : decode cX11_fewest 80 = .ok (.goto 4, 3) := by decide +kernel
theorem dX11_fewest_83 : decode cX11_fewest 83 = .ok (.iconst 0, 1) := by decide +kernel
theorem dX11_fewest_84 : decode cX11_fewest 84 = .ok (.istore 4, 2) := by decide +kernel
theorem dX11_fewest_86 : decode cX11_fewest 86 = .ok (.iload 4, 2) := by decide +kernel
theorem dX11_fewest_88 : decode cX11_fewest 88 = .ok (.ifCond .eq 19, 3) := by decide +kernel
theorem dX11_fewest_91 : decode cX11_fewest 91 = .ok (.iload_n 3, 1) := by decide +kernel
theorem dX11_fewest_92 : decode cX11_fewest 92 = .ok (.iconst 1, 1) := by decide +kernel
theorem dX11_fewest_93 : decode cX11_fewest 93 = .ok (.aload_n 0, 1) := by decide +kernel
theorem dX11_fewest_94 : decode cX11_fewest 94 = .ok (.getfield 150, 3) := by decide +kernel
theorem dX11_fewest_97 : decode cX11_fewest 97 = .ok (.ishl, 1) := by decide +kernel
theorem dX11_fewest_98 : decode cX11_fewest 98 = .ok (.iconst 1, 1) := by decide +kernel
theorem dX11_fewest_99 : decode cX11_fewest 99 = .ok (.isub, 1) := by decide +kernel
theorem dX11_fewest_100 : decode cX11_fewest 100 = .ok (.if_icmp .ne 7, 3) := by decide +kernel
theorem dX11_fewest_103 : decode cX11_fewest 103 = .ok (.iload_n 2, 1) := by decide +kernel
theorem dX11_fewest_104 : decode cX11_fewest 104 = .ok (.goto 4, 3) := by decide +kernel
theorem dX11_fewest_107 : decode cX11_fewest 107 = .ok (.iload_n 1, 1) := by decide +kernel
theorem dX11_fewest_108 : decode cX11_fewest 108 = .ok (.istore_n 1, 1) := by decide +kernel
theorem dX11_fewest_109 : decode cX11_fewest 109 = .ok (.iinc 2 1, 3) := by decide +kernel
theorem dX11_fewest_112 : decode cX11_fewest 112 = .ok (.goto (-108), 3) := by decide +kernel
theorem dX11_fewest_115 : decode cX11_fewest 115 = .ok (.iload_n 1, 1) := by decide +kernel
theorem dX11_fewest_116 : decode cX11_fewest 116 = .ok (.ireturn, 1) := by decide +kernel
theorem dX11_told_0 : decode cX11_told 0 = .ok (.iload_n 1, 1) := by decide +kernel
theorem dX11_told_1 : decode cX11_told 1 = .ok (.tableswitch 207 0 19 #[95, 103, 108, 113, 118, 123, 128, 136, 141, 149, 157, 162, 167, 172, 177, 182, 187, 192, 197, 202], 95) := by decide +kernel
theorem dX11_told_96 : decode cX11_told 96 = .ok (.aload_n 0, 1) := by decide +kernel
theorem dX11_told_97 : decode cX11_told 97 = .ok (.getfield 25, 3) := by decide +kernel
theorem dX11_told_100 : decode cX11_told 100 = .ok (.bipush 25, 2) := by decide +kernel
theorem dX11_told_102 : decode cX11_told 102 = .ok (.iaload, 1) := by decide +kernel
theorem dX11_told_103 : decode cX11_told 103 = .ok (.ireturn, 1) := by decide +kernel
theorem dX11_told_104 : decode cX11_told 104 = .ok (.aload_n 0, 1) := by decide +kernel
theorem dX11_told_105 : decode cX11_told 105 = .ok (.getfield 88, 3) := by decide +kernel
theorem dX11_told_108 : decode cX11_told 108 = .ok (.ireturn, 1) := by decide +kernel
theorem dX11_told_109 : decode cX11_told 109 = .ok (.aload_n 0, 1) := by decide +kernel
theorem dX11_told_110 : decode cX11_told 110 = .ok (.getfield 150, 3) := by decide +kernel
theorem dX11_told_113 : decode cX11_told 113 = .ok (.ireturn, 1) := by decide +kernel
theorem dX11_told_114 : decode cX11_told 114 = .ok (.aload_n 0, 1) := by decide +kernel
theorem dX11_told_115 : decode cX11_told 115 = .ok (.getfield 81, 3) := by decide +kernel
theorem dX11_told_118 : decode cX11_told 118 = .ok (.ireturn, 1) := by decide +kernel
theorem dX11_told_119 : decode cX11_told 119 = .ok (.aload_n 0, 1) := by decide +kernel
theorem dX11_told_120 : decode cX11_told 120 = .ok (.getfield 153, 3) := by decide +kernel
theorem dX11_told_123 : decode cX11_told 123 = .ok (.ireturn, 1) := by decide +kernel
theorem dX11_told_124 : decode cX11_told 124 = .ok (.aload_n 0, 1) := by decide +kernel
theorem dX11_told_125 : decode cX11_told 125 = .ok (.getfield 94, 3) := by decide +kernel
theorem dX11_told_128 : decode cX11_told 128 = .ok (.ireturn, 1) := by decide +kernel
theorem dX11_told_129 : decode cX11_told 129 = .ok (.aload_n 0, 1) := by decide +kernel
theorem dX11_told_130 : decode cX11_told 130 = .ok (.getfield 25, 3) := by decide +kernel
theorem dX11_told_133 : decode cX11_told 133 = .ok (.bipush 28, 2) := by decide +kernel
theorem dX11_told_135 : decode cX11_told 135 = .ok (.iaload, 1) := by decide +kernel
theorem dX11_told_136 : decode cX11_told 136 = .ok (.ireturn, 1) := by decide +kernel
theorem dX11_told_137 : decode cX11_told 137 = .ok (.aload_n 0, 1) := by decide +kernel
theorem dX11_told_138 : decode cX11_told 138 = .ok (.invokevirtual 194, 3) := by decide +kernel
theorem dX11_told_141 : decode cX11_told 141 = .ok (.ireturn, 1) := by decide +kernel
theorem dX11_told_142 : decode cX11_told 142 = .ok (.aload_n 0, 1) := by decide +kernel
theorem dX11_told_143 : decode cX11_told 143 = .ok (.getfield 25, 3) := by decide +kernel
theorem dX11_told_146 : decode cX11_told 146 = .ok (.bipush 26, 2) := by decide +kernel
theorem dX11_told_148 : decode cX11_told 148 = .ok (.iaload, 1) := by decide +kernel
theorem dX11_told_149 : decode cX11_told 149 = .ok (.ireturn, 1) := by decide +kernel
theorem dX11_told_150 : decode cX11_told 150 = .ok (.aload_n 0, 1) := by decide +kernel
theorem dX11_told_151 : decode cX11_told 151 = .ok (.getfield 25, 3) := by decide +kernel
theorem dX11_told_154 : decode cX11_told 154 = .ok (.bipush 27, 2) := by decide +kernel
theorem dX11_told_156 : decode cX11_told 156 = .ok (.iaload, 1) := by decide +kernel
theorem dX11_told_157 : decode cX11_told 157 = .ok (.ireturn, 1) := by decide +kernel
theorem dX11_told_158 : decode cX11_told 158 = .ok (.aload_n 0, 1) := by decide +kernel
theorem dX11_told_159 : decode cX11_told 159 = .ok (.invokevirtual 207, 3) := by decide +kernel
theorem dX11_told_162 : decode cX11_told 162 = .ok (.ireturn, 1) := by decide +kernel
theorem dX11_told_163 : decode cX11_told 163 = .ok (.aload_n 0, 1) := by decide +kernel
theorem dX11_told_164 : decode cX11_told 164 = .ok (.invokevirtual 210, 3) := by decide +kernel
theorem dX11_told_167 : decode cX11_told 167 = .ok (.ireturn, 1) := by decide +kernel
theorem dX11_told_168 : decode cX11_told 168 = .ok (.aload_n 0, 1) := by decide +kernel
theorem dX11_told_169 : decode cX11_told 169 = .ok (.invokevirtual 213, 3) := by decide +kernel
theorem dX11_told_172 : decode cX11_told 172 = .ok (.ireturn, 1) := by decide +kernel
theorem dX11_told_173 : decode cX11_told 173 = .ok (.aload_n 0, 1) := by decide +kernel
theorem dX11_told_174 : decode cX11_told 174 = .ok (.invokevirtual 216, 3) := by decide +kernel
theorem dX11_told_177 : decode cX11_told 177 = .ok (.ireturn, 1) := by decide +kernel
theorem dX11_told_178 : decode cX11_told 178 = .ok (.aload_n 0, 1) := by decide +kernel
theorem dX11_told_179 : decode cX11_told 179 = .ok (.getfield 170, 3) := by decide +kernel
theorem dX11_told_182 : decode cX11_told 182 = .ok (.ireturn, 1) := by decide +kernel
theorem dX11_told_183 : decode cX11_told 183 = .ok (.aload_n 0, 1) := by decide +kernel
theorem dX11_told_184 : decode cX11_told 184 = .ok (.invokevirtual 219, 3) := by decide +kernel
theorem dX11_told_187 : decode cX11_told 187 = .ok (.ireturn, 1) := by decide +kernel
theorem dX11_told_188 : decode cX11_told 188 = .ok (.aload_n 0, 1) := by decide +kernel
theorem dX11_told_189 : decode cX11_told 189 = .ok (.invokevirtual 222, 3) := by decide +kernel
theorem dX11_told_192 : decode cX11_told 192 = .ok (.ireturn, 1) := by decide +kernel
theorem dX11_told_193 : decode cX11_told 193 = .ok (.aload_n 0, 1) := by decide +kernel
theorem dX11_told_194 : decode cX11_told 194 = .ok (.invokevirtual 225, 3) := by decide +kernel
theorem dX11_told_197 : decode cX11_told 197 = .ok (.ireturn, 1) := by decide +kernel
theorem dX11_told_198 : decode cX11_told 198 = .ok (.aload_n 0, 1) := by decide +kernel
theorem dX11_told_199 : decode cX11_told 199 = .ok (.getfield 173, 3) := by decide +kernel
theorem dX11_told_202 : decode cX11_told 202 = .ok (.ireturn, 1) := by decide +kernel
theorem dX11_told_203 : decode cX11_told 203 = .ok (.aload_n 0, 1) := by decide +kernel
theorem dX11_told_204 : decode cX11_told 204 = .ok (.getfield 176, 3) := by decide +kernel
theorem dX11_told_207 : decode cX11_told 207 = .ok (.ireturn, 1) := by decide +kernel
theorem dX11_told_208 : decode cX11_told 208 = .ok (.ldc 93, 2) := by decide +kernel
theorem dX11_told_210 : decode cX11_told 210 = .ok (.ireturn, 1) := by decide +kernel
theorem dX11_singer_0 : decode cX11_singer 0 = .ok (.aload_n 0, 1) := by decide +kernel
theorem dX11_singer_1 : decode cX11_singer 1 = .ok (.iload_n 1, 1) := by decide +kernel
theorem dX11_singer_2 : decode cX11_singer 2 = .ok (.invokevirtual 228, 3) := by decide +kernel
theorem dX11_singer_5 : decode cX11_singer 5 = .ok (.ifCond .ne 6, 3) := by decide +kernel
theorem dX11_singer_8 : decode cX11_singer 8 = .ok (.ldc 231, 2) := by decide +kernel
theorem dX11_singer_10 : decode cX11_singer 10 = .ok (.ireturn, 1) := by decide +kernel
theorem dX11_singer_11 : decode cX11_singer 11 = .ok (.iload_n 2, 1) := by decide +kernel
theorem dX11_singer_12 : decode cX11_singer 12 = .ok (.tableswitch 87 0 5 #[40, 47, 54, 64, 71, 81], 40) := by decide +kernel
theorem dX11_singer_52 : decode cX11_singer 52 = .ok (.aload_n 0, 1) := by decide +kernel
theorem dX11_singer_53 : decode cX11_singer 53 = .ok (.getfield 7, 3) := by decide +kernel
theorem dX11_singer_56 : decode cX11_singer 56 = .ok (.iload_n 1, 1) := by decide +kernel
theorem dX11_singer_57 : decode cX11_singer 57 = .ok (.iaload, 1) := by decide +kernel
theorem dX11_singer_58 : decode cX11_singer 58 = .ok (.ireturn, 1) := by decide +kernel
theorem dX11_singer_59 : decode cX11_singer 59 = .ok (.aload_n 0, 1) := by decide +kernel
theorem dX11_singer_60 : decode cX11_singer 60 = .ok (.getfield 25, 3) := by decide +kernel
theorem dX11_singer_63 : decode cX11_singer 63 = .ok (.iload_n 1, 1) := by decide +kernel
theorem dX11_singer_64 : decode cX11_singer 64 = .ok (.iaload, 1) := by decide +kernel
theorem dX11_singer_65 : decode cX11_singer 65 = .ok (.ireturn, 1) := by decide +kernel
theorem dX11_singer_66 : decode cX11_singer 66 = .ok (.aload_n 0, 1) := by decide +kernel
theorem dX11_singer_67 : decode cX11_singer 67 = .ok (.getfield 25, 3) := by decide +kernel
theorem dX11_singer_70 : decode cX11_singer 70 = .ok (.bipush 7, 2) := by decide +kernel
theorem dX11_singer_72 : decode cX11_singer 72 = .ok (.iload_n 1, 1) := by decide +kernel
theorem dX11_singer_73 : decode cX11_singer 73 = .ok (.iadd, 1) := by decide +kernel
theorem dX11_singer_74 : decode cX11_singer 74 = .ok (.iaload, 1) := by decide +kernel
theorem dX11_singer_75 : decode cX11_singer 75 = .ok (.ireturn, 1) := by decide +kernel
theorem dX11_singer_76 : decode cX11_singer 76 = .ok (.aload_n 0, 1) := by decide +kernel
theorem dX11_singer_77 : decode cX11_singer 77 = .ok (.getfield 19, 3) := by decide +kernel
theorem dX11_singer_80 : decode cX11_singer 80 = .ok (.iload_n 1, 1) := by decide +kernel
theorem dX11_singer_81 : decode cX11_singer 81 = .ok (.iaload, 1) := by decide +kernel
theorem dX11_singer_82 : decode cX11_singer 82 = .ok (.ireturn, 1) := by decide +kernel
theorem dX11_singer_83 : decode cX11_singer 83 = .ok (.aload_n 0, 1) := by decide +kernel
theorem dX11_singer_84 : decode cX11_singer 84 = .ok (.getfield 25, 3) := by decide +kernel
theorem dX11_singer_87 : decode cX11_singer 87 = .ok (.bipush 14, 2) := by decide +kernel
theorem dX11_singer_89 : decode cX11_singer 89 = .ok (.iload_n 1, 1) := by decide +kernel
theorem dX11_singer_90 : decode cX11_singer 90 = .ok (.iadd, 1) := by decide +kernel
theorem dX11_singer_91 : decode cX11_singer 91 = .ok (.iaload, 1) := by decide +kernel
theorem dX11_singer_92 : decode cX11_singer 92 = .ok (.ireturn, 1) := by decide +kernel
theorem dX11_singer_93 : decode cX11_singer 93 = .ok (.aload_n 0, 1) := by decide +kernel
theorem dX11_singer_94 : decode cX11_singer 94 = .ok (.iload_n 1, 1) := by decide +kernel
theorem dX11_singer_95 : decode cX11_singer 95 = .ok (.invokevirtual 200, 3) := by decide +kernel
theorem dX11_singer_98 : decode cX11_singer 98 = .ok (.ireturn, 1) := by decide +kernel
theorem dX11_singer_99 : decode cX11_singer 99 = .ok (.ldc 93, 2) := by decide +kernel
theorem dX11_singer_101 : decode cX11_singer 101 = .ok (.ireturn, 1) := by decide +kernel
theorem dX11_place_0 : decode cX11_place 0 = .ok (.aload_n 0, 1) := by decide +kernel
theorem dX11_place_1 : decode cX11_place 1 = .ok (.iload_n 1, 1) := by decide +kernel
theorem dX11_place_2 : decode cX11_place 2 = .ok (.invokevirtual 232, 3) := by decide +kernel
theorem dX11_place_5 : decode cX11_place 5 = .ok (.ifCond .ne 6, 3) := by decide +kernel
theorem dX11_place_8 : decode cX11_place 8 = .ok (.ldc 231, 2) := by decide +kernel
theorem dX11_place_10 : decode cX11_place 10 = .ok (.ireturn, 1) := by decide +kernel
theorem dX11_place_11 : decode cX11_place 11 = .ok (.iload_n 2, 1) := by decide +kernel
theorem dX11_place_12 : decode cX11_place 12 = .ok (.tableswitch 61 0 3 #[32, 38, 49, 55], 32) := by decide +kernel
theorem dX11_place_44 : decode cX11_place 44 = .ok (.aload_n 0, 1) := by decide +kernel
theorem dX11_place_45 : decode cX11_place 45 = .ok (.iload_n 1, 1) := by decide +kernel
theorem dX11_place_46 : decode cX11_place 46 = .ok (.invokevirtual 191, 3) := by decide +kernel
theorem dX11_place_49 : decode cX11_place 49 = .ok (.ireturn, 1) := by decide +kernel
theorem dX11_place_50 : decode cX11_place 50 = .ok (.aload_n 0, 1) := by decide +kernel
theorem dX11_place_51 : decode cX11_place 51 = .ok (.iload_n 1, 1) := by decide +kernel
theorem dX11_place_52 : decode cX11_place 52 = .ok (.invokevirtual 191, 3) := by decide +kernel
theorem dX11_place_55 : decode cX11_place 55 = .ok (.aload_n 0, 1) := by decide +kernel
theorem dX11_place_56 : decode cX11_place 56 = .ok (.invokevirtual 194, 3) := by decide +kernel
theorem dX11_place_59 : decode cX11_place 59 = .ok (.iand, 1) := by decide +kernel
theorem dX11_place_60 : decode cX11_place 60 = .ok (.ireturn, 1) := by decide +kernel
theorem dX11_place_61 : decode cX11_place 61 = .ok (.aload_n 0, 1) := by decide +kernel
theorem dX11_place_62 : decode cX11_place 62 = .ok (.iload_n 1, 1) := by decide +kernel
theorem dX11_place_63 : decode cX11_place 63 = .ok (.invokevirtual 235, 3) := by decide +kernel
theorem dX11_place_66 : decode cX11_place 66 = .ok (.ireturn, 1) := by decide +kernel
theorem dX11_place_67 : decode cX11_place 67 = .ok (.aload_n 0, 1) := by decide +kernel
theorem dX11_place_68 : decode cX11_place 68 = .ok (.iload_n 1, 1) := by decide +kernel
theorem dX11_place_69 : decode cX11_place 69 = .ok (.invokevirtual 179, 3) := by decide +kernel
theorem dX11_place_72 : decode cX11_place 72 = .ok (.ireturn, 1) := by decide +kernel
theorem dX11_place_73 : decode cX11_place 73 = .ok (.ldc 93, 2) := by decide +kernel
theorem dX11_place_75 : decode cX11_place 75 = .ok (.ireturn, 1) := by decide +kernel
theorem dX11_remember_0 : decode cX11_remember 0 = .ok (.aload_n 0, 1) := by decide +kernel
theorem dX11_remember_1 : decode cX11_remember 1 = .ok (.getfield 176, 3) := by decide +kernel
theorem dX11_remember_4 : decode cX11_remember 4 = .ok (.bipush 16, 2) := by decide +kernel
theorem dX11_remember_6 : decode cX11_remember 6 = .ok (.if_icmp .ne 44, 3) := by decide +kernel
theorem dX11_remember_9 : decode cX11_remember 9 = .ok (.bipush 29, 2) := by decide +kernel
theorem dX11_remember_11 : decode cX11_remember 11 = .ok (.istore_n 1, 1) := by decide +kernel
theorem dX11_remember_12 : decode cX11_remember 12 = .ok (.iload_n 1, 1) := by decide +kernel
theorem dX11_remember_13 : decode cX11_remember 13 = .ok (.sipush 464, 3) := by decide +kernel
theorem dX11_remember_16 : decode cX11_remember 16 = .ok (.if_icmp .ge 24, 3) := by decide +kernel
theorem dX11_remember_19 : decode cX11_remember 19 = .ok (.aload_n 0, 1) := by decide +kernel
theorem dX11_remember_20 : decode cX11_remember 20 = .ok (.getfield 50, 3) := by decide +kernel
theorem dX11_remember_23 : decode cX11_remember 23 = .ok (.iload_n 1, 1) := by decide +kernel
theorem dX11_remember_24 : decode cX11_remember 24 = .ok (.bipush 29, 2) := by decide +kernel
theorem dX11_remember_26 : decode cX11_remember 26 = .ok (.isub, 1) := by decide +kernel
theorem dX11_remember_27 : decode cX11_remember 27 = .ok (.aload_n 0, 1) := by decide +kernel
theorem dX11_remember_28 : decode cX11_remember 28 = .ok (.getfield 50, 3) := by decide +kernel
theorem dX11_remember_31 : decode cX11_remember 31 = .ok (.iload_n 1, 1) := by decide +kernel
theorem dX11_remember_32 : decode cX11_remember 32 = .ok (.iaload, 1) := by decide +kernel
theorem dX11_remember_33 : decode cX11_remember 33 = .ok (.iastore, 1) := by decide +kernel
theorem dX11_remember_34 : decode cX11_remember 34 = .ok (.iinc 1 1, 3) := by decide +kernel
theorem dX11_remember_37 : decode cX11_remember 37 = .ok (.goto (-25), 3) := by decide +kernel
theorem dX11_remember_40 : decode cX11_remember 40 = .ok (.aload_n 0, 1) := by decide +kernel
theorem dX11_remember_41 : decode cX11_remember 41 = .ok (.dup, 1) := by decide +kernel
theorem dX11_remember_42 : decode cX11_remember 42 = .ok (.getfield 176, 3) := by decide +kernel
theorem dX11_remember_45 : decode cX11_remember 45 = .ok (.iconst 1, 1) := by decide +kernel
theorem dX11_remember_46 : decode cX11_remember 46 = .ok (.isub, 1) := by decide +kernel
theorem dX11_remember_47 : decode cX11_remember 47 = .ok (.putfield 176, 3) := by decide +kernel
theorem dX11_remember_50 : decode cX11_remember 50 = .ok (.iconst 0, 1) := by decide +kernel
theorem dX11_remember_51 : decode cX11_remember 51 = .ok (.istore_n 1, 1) := by decide +kernel
theorem dX11_remember_52 : decode cX11_remember 52 = .ok (.iload_n 1, 1) := by decide +kernel
theorem dX11_remember_53 : decode cX11_remember 53 = .ok (.bipush 29, 2) := by decide +kernel
theorem dX11_remember_55 : decode cX11_remember 55 = .ok (.if_icmp .ge 29, 3) := by decide +kernel
theorem dX11_remember_58 : decode cX11_remember 58 = .ok (.aload_n 0, 1) := by decide +kernel
theorem dX11_remember_59 : decode cX11_remember 59 = .ok (.getfield 50, 3) := by decide +kernel
theorem dX11_remember_62 : decode cX11_remember 62 = .ok (.bipush 29, 2) := by decide +kernel
theorem dX11_remember_64 : decode cX11_remember 64 = .ok (.aload_n 0, 1) := by decide +kernel
theorem dX11_remember_65 : decode cX11_remember 65 = .ok (.getfield 176, 3) := by decide +kernel
theorem dX11_remember_68 : decode cX11_remember 68 = .ok (.imul, 1) := by decide +kernel
theorem dX11_remember_69 : decode cX11_remember 69 = .ok (.iload_n 1, 1) := by decide +kernel
theorem dX11_remember_70 : decode cX11_remember 70 = .ok (.iadd, 1) := by decide +kernel
theorem dX11_remember_71 : decode cX11_remember 71 = .ok (.aload_n 0, 1) := by decide +kernel
theorem dX11_remember_72 : decode cX11_remember 72 = .ok (.getfield 25, 3) := by decide +kernel
theorem dX11_remember_75 : decode cX11_remember 75 = .ok (.iload_n 1, 1) := by decide +kernel
theorem dX11_remember_76 : decode cX11_remember 76 = .ok (.iaload, 1) := by decide +kernel
theorem dX11_remember_77 : decode cX11_remember 77 = .ok (.iastore, 1) := by decide +kernel
theorem dX11_remember_78 : decode cX11_remember 78 = .ok (.iinc 1 1, 3) := by decide +kernel
theorem dX11_remember_81 : decode cX11_remember 81 = .ok (.goto (-29), 3) := by decide +kernel
theorem dX11_remember_84 : decode cX11_remember 84 = .ok (.aload_n 0, 1) := by decide +kernel
theorem dX11_remember_85 : decode cX11_remember 85 = .ok (.dup, 1) := by decide +kernel
theorem dX11_remember_86 : decode cX11_remember 86 = .ok (.getfield 176, 3) := by decide +kernel
theorem dX11_remember_89 : decode cX11_remember 89 = .ok (.iconst 1, 1) := by decide +kernel
theorem dX11_remember_90 : decode cX11_remember 90 = .ok (.iadd, 1) := by decide +kernel
theorem dX11_remember_91 : decode cX11_remember 91 = .ok (.putfield 176, 3) := by decide +kernel
theorem dX11_remember_94 : decode cX11_remember 94 = .ok (.return_, 1) := by decide +kernel
theorem dX11_hushNow_0 : decode cX11_hushNow 0 = .ok (.aload_n 0, 1) := by decide +kernel
theorem dX11_hushNow_1 : decode cX11_hushNow 1 = .ok (.getfield 25, 3) := by decide +kernel
theorem dX11_hushNow_4 : decode cX11_hushNow 4 = .ok (.bipush 14, 2) := by decide +kernel
theorem dX11_hushNow_6 : decode cX11_hushNow 6 = .ok (.iload_n 1, 1) := by decide +kernel
theorem dX11_hushNow_7 : decode cX11_hushNow 7 = .ok (.iadd, 1) := by decide +kernel
theorem dX11_hushNow_8 : decode cX11_hushNow 8 = .ok (.iaload, 1) := by decide +kernel
theorem dX11_hushNow_9 : decode cX11_hushNow 9 = .ok (.istore_n 2, 1) := by decide +kernel
theorem dX11_hushNow_10 : decode cX11_hushNow 10 = .ok (.iconst 0, 1) := by decide +kernel
theorem dX11_hushNow_11 : decode cX11_hushNow 11 = .ok (.istore_n 3, 1) := by decide +kernel
theorem dX11_hushNow_12 : decode cX11_hushNow 12 = .ok (.iload_n 3, 1) := by decide +kernel
theorem dX11_hushNow_13 : decode cX11_hushNow 13 = .ok (.aload_n 0, 1) := by decide +kernel
theorem dX11_hushNow_14 : decode cX11_hushNow 14 = .ok (.getfield 81, 3) := by decide +kernel
theorem dX11_hushNow_17 : decode cX11_hushNow 17 = .ok (.if_icmp .ge 59, 3) := by decide +kernel
theorem dX11_hushNow_20 : decode cX11_hushNow 20 = .ok (.iload_n 2, 1) := by decide +kernel
theorem dX11_hushNow_21 : decode cX11_hushNow 21 = .ok (.iconst (-1), 1) := by decide +kernel
theorem dX11_hushNow_22 : decode cX11_hushNow 22 = .ok (.if_icmp .eq 54, 3) := by decide +kernel
theorem dX11_hushNow_25 : decode cX11_hushNow 25 = .ok (.aload_n 0, 1) := by decide +kernel
theorem dX11_hushNow_26 : decode cX11_hushNow 26 = .ok (.getfield 25, 3) := by decide +kernel
theorem dX11_hushNow_29 : decode cX11_hushNow 29 = .ok (.bipush 14, 2) := by decide +kernel
theorem dX11_hushNow_31 : decode cX11_hushNow 31 = .ok (.iload_n 3, 1) := by decide +kernel
theorem dX11_hushNow_32 : decode cX11_hushNow 32 = .ok (.iadd, 1) := by decide +kernel
theorem dX11_hushNow_33 : decode cX11_hushNow 33 = .ok (.dup2, 1) := by decide +kernel
theorem dX11_hushNow_34 : decode cX11_hushNow 34 = .ok (.iaload, 1) := by decide +kernel
theorem dX11_hushNow_35 : decode cX11_hushNow 35 = .ok (.aload_n 0, 1) := by decide +kernel
theorem dX11_hushNow_36 : decode cX11_hushNow 36 = .ok (.getfield 25, 3) := by decide +kernel
theorem dX11_hushNow_39 : decode cX11_hushNow 39 = .ok (.iload_n 3, 1) := by decide +kernel
theorem dX11_hushNow_40 : decode cX11_hushNow 40 = .ok (.iaload, 1) := by decide +kernel
theorem dX11_hushNow_41 : decode cX11_hushNow 41 = .ok (.aload_n 0, 1) := by decide +kernel
theorem dX11_hushNow_42 : decode cX11_hushNow 42 = .ok (.getfield 25, 3) := by decide +kernel
theorem dX11_hushNow_45 : decode cX11_hushNow 45 = .ok (.iload_n 1, 1) := by decide +kernel
theorem dX11_hushNow_46 : decode cX11_hushNow 46 = .ok (.iaload, 1) := by decide +kernel
theorem dX11_hushNow_47 : decode cX11_hushNow 47 = .ok (.if_icmp .ne 20, 3) := by decide +kernel
theorem dX11_hushNow_50 : decode cX11_hushNow 50 = .ok (.aload_n 0, 1) := by decide +kernel
theorem dX11_hushNow_51 : decode cX11_hushNow 51 = .ok (.getfield 25, 3) := by decide +kernel
theorem dX11_hushNow_54 : decode cX11_hushNow 54 = .ok (.bipush 14, 2) := by decide +kernel
theorem dX11_hushNow_56 : decode cX11_hushNow 56 = .ok (.iload_n 3, 1) := by decide +kernel
theorem dX11_hushNow_57 : decode cX11_hushNow 57 = .ok (.iadd, 1) := by decide +kernel
theorem dX11_hushNow_58 : decode cX11_hushNow 58 = .ok (.iaload, 1) := by decide +kernel
theorem dX11_hushNow_59 : decode cX11_hushNow 59 = .ok (.iload_n 2, 1) := by decide +kernel
theorem dX11_hushNow_60 : decode cX11_hushNow 60 = .ok (.if_icmp .le 7, 3) := by decide +kernel
theorem dX11_hushNow_63 : decode cX11_hushNow 63 = .ok (.iconst 1, 1) := by decide +kernel
theorem dX11_hushNow_64 : decode cX11_hushNow 64 = .ok (.goto 4, 3) := by decide +kernel
theorem dX11_hushNow_67 : decode cX11_hushNow 67 = .ok (.iconst 0, 1) := by decide +kernel
theorem dX11_hushNow_68 : decode cX11_hushNow 68 = .ok (.isub, 1) := by decide +kernel
theorem dX11_hushNow_69 : decode cX11_hushNow 69 = .ok (.iastore, 1) := by decide +kernel
theorem dX11_hushNow_70 : decode cX11_hushNow 70 = .ok (.iinc 3 1, 3) := by decide +kernel
theorem dX11_hushNow_73 : decode cX11_hushNow 73 = .ok (.goto (-61), 3) := by decide +kernel
theorem dX11_hushNow_76 : decode cX11_hushNow 76 = .ok (.aload_n 0, 1) := by decide +kernel
theorem dX11_hushNow_77 : decode cX11_hushNow 77 = .ok (.getfield 25, 3) := by decide +kernel
theorem dX11_hushNow_80 : decode cX11_hushNow 80 = .ok (.bipush 14, 2) := by decide +kernel
theorem dX11_hushNow_82 : decode cX11_hushNow 82 = .ok (.iload_n 1, 1) := by decide +kernel
theorem dX11_hushNow_83 : decode cX11_hushNow 83 = .ok (.iadd, 1) := by decide +kernel
theorem dX11_hushNow_84 : decode cX11_hushNow 84 = .ok (.iconst (-1), 1) := by decide +kernel
theorem dX11_hushNow_85 : decode cX11_hushNow 85 = .ok (.iastore, 1) := by decide +kernel
theorem dX11_hushNow_86 : decode cX11_hushNow 86 = .ok (.return_, 1) := by decide +kernel
theorem dX11_pass_0 : decode cX11_pass 0 = .ok (.iconst 0, 1) := by decide +kernel
theorem dX11_pass_1 : decode cX11_pass 1 = .ok (.istore_n 1, 1) := by decide +kernel
theorem dX11_pass_2 : decode cX11_pass 2 = .ok (.iconst 0, 1) := by decide +kernel
theorem dX11_pass_3 : decode cX11_pass 3 = .ok (.istore_n 2, 1) := by decide +kernel
theorem dX11_pass_4 : decode cX11_pass 4 = .ok (.iconst 0, 1) := by decide +kernel
theorem dX11_pass_5 : decode cX11_pass 5 = .ok (.istore_n 3, 1) := by decide +kernel
theorem dX11_pass_6 : decode cX11_pass 6 = .ok (.iload_n 3, 1) := by decide +kernel
theorem dX11_pass_7 : decode cX11_pass 7 = .ok (.aload_n 0, 1) := by decide +kernel
theorem dX11_pass_8 : decode cX11_pass 8 = .ok (.getfield 81, 3) := by decide +kernel
theorem dX11_pass_11 : decode cX11_pass 11 = .ok (.if_icmp .ge 150, 3) := by decide +kernel
theorem dX11_pass_14 : decode cX11_pass 14 = .ok (.aload_n 0, 1) := by decide +kernel
theorem dX11_pass_15 : decode cX11_pass 15 = .ok (.iload_n 3, 1) := by decide +kernel
theorem dX11_pass_16 : decode cX11_pass 16 = .ok (.invokevirtual 200, 3) := by decide +kernel
theorem dX11_pass_19 : decode cX11_pass 19 = .ok (.istore 4, 2) := by decide +kernel
theorem dX11_pass_21 : decode cX11_pass 21 = .ok (.iload 4, 2) := by decide +kernel
theorem dX11_pass_23 : decode cX11_pass 23 = .ok (.aload_n 0, 1) := by decide +kernel
theorem dX11_pass_24 : decode cX11_pass 24 = .ok (.getfield 25, 3) := by decide +kernel
theorem dX11_pass_27 : decode cX11_pass 27 = .ok (.bipush 7, 2) := by decide +kernel
theorem dX11_pass_29 : decode cX11_pass 29 = .ok (.iload_n 3, 1) := by decide +kernel
theorem dX11_pass_30 : decode cX11_pass 30 = .ok (.iadd, 1) := by decide +kernel
theorem dX11_pass_31 : decode cX11_pass 31 = .ok (.iaload, 1) := by decide +kernel
theorem dX11_pass_32 : decode cX11_pass 32 = .ok (.if_icmp .ge 8, 3) := by decide +kernel
theorem dX11_pass_35 : decode cX11_pass 35 = .ok (.iload 4, 2) := by decide +kernel
theorem dX11_pass_37 : decode cX11_pass 37 = .ok (.goto 12, 3) := by decide +kernel
theorem dX11_pass_40 : decode cX11_pass 40 = .ok (.aload_n 0, 1) := by decide +kernel
theorem dX11_pass_41 : decode cX11_pass 41 = .ok (.getfield 25, 3) := by decide +kernel
theorem dX11_pass_44 : decode cX11_pass 44 = .ok (.bipush 7, 2) := by decide +kernel
theorem dX11_pass_46 : decode cX11_pass 46 = .ok (.iload_n 3, 1) := by decide +kernel
theorem dX11_pass_47 : decode cX11_pass 47 = .ok (.iadd, 1) := by decide +kernel
theorem dX11_pass_48 : decode cX11_pass 48 = .ok (.iaload, 1) := by decide +kernel
theorem dX11_pass_49 : decode cX11_pass 49 = .ok (.istore 5, 2) := by decide +kernel
theorem dX11_pass_51 : decode cX11_pass 51 = .ok (.iload_n 1, 1) := by decide +kernel
theorem dX11_pass_52 : decode cX11_pass 52 = .ok (.iload 5, 2) := by decide +kernel
theorem dX11_pass_54 : decode cX11_pass 54 = .ok (.iload 4, 2) := by decide +kernel
theorem dX11_pass_56 : decode cX11_pass 56 = .ok (.if_icmp .ge 9, 3) := by decide +kernel
theorem dX11_pass_59 : decode cX11_pass 59 = .ok (.iconst 1, 1) := by decide +kernel
theorem dX11_pass_60 : decode cX11_pass 60 = .ok (.iload_n 3, 1) := by decide +kernel
theorem dX11_pass_61 : decode cX11_pass 61 = .ok (.ishl, 1) := by decide +kernel
theorem dX11_pass_62 : decode cX11_pass 62 = .ok (.goto 4, 3) := by decide +kernel
theorem dX11_pass_65 : decode cX11_pass 65 = .ok (.iconst 0, 1) := by decide +kernel
theorem dX11_pass_66 : decode cX11_pass 66 = .ok (.ior, 1) := by decide +kernel
theorem dX11_pass_67 : decode cX11_pass 67 = .ok (.istore_n 1, 1) := by decide +kernel
theorem dX11_pass_68 : decode cX11_pass 68 = .ok (.aload_n 0, 1) := by decide +kernel
theorem dX11_pass_69 : decode cX11_pass 69 = .ok (.getfield 7, 3) := by decide +kernel
theorem dX11_pass_72 : decode cX11_pass 72 = .ok (.iload_n 3, 1) := by decide +kernel
theorem dX11_pass_73 : decode cX11_pass 73 = .ok (.iaload, 1) := by decide +kernel
theorem dX11_pass_74 : decode cX11_pass 74 = .ok (.iconst 3, 1) := by decide +kernel
theorem dX11_pass_75 : decode cX11_pass 75 = .ok (.if_icmp .ne 25, 3) := by decide +kernel
theorem dX11_pass_78 : decode cX11_pass 78 = .ok (.iload 5, 2) := by decide +kernel
theorem dX11_pass_80 : decode cX11_pass 80 = .ok (.ifCond .le 20, 3) := by decide +kernel
theorem dX11_pass_83 : decode cX11_pass 83 = .ok (.aload_n 0, 1) := by decide +kernel
theorem dX11_pass_84 : decode cX11_pass 84 = .ok (.aload_n 0, 1) := by decide +kernel
theorem dX11_pass_85 : decode cX11_pass 85 = .ok (.getfield 25, 3) := by decide +kernel
theorem dX11_pass_88 : decode cX11_pass 88 = .ok (.iload_n 3, 1) := by decide +kernel
theorem dX11_pass_89 : decode cX11_pass 89 = .ok (.iaload, 1) := by decide +kernel
theorem dX11_pass_90 : decode cX11_pass 90 = .ok (.invokevirtual 179, 3) := by decide +kernel
theorem dX11_pass_93 : decode cX11_pass 93 = .ok (.ifCond .le 7, 3) := by decide +kernel
theorem dX11_pass_96 : decode cX11_pass 96 = .ok (.iconst 1, 1) := by decide +kernel
theorem dX11_pass_97 : decode cX11_pass 97 = .ok (.goto 4, 3) := by decide +kernel
theorem dX11_pass_100 : decode cX11_pass 100 = .ok (.iconst 0, 1) := by decide +kernel
theorem dX11_pass_101 : decode cX11_pass 101 = .ok (.istore 6, 2) := by decide +kernel
theorem dX11_pass_103 : decode cX11_pass 103 = .ok (.aload_n 0, 1) := by decide +kernel
theorem dX11_pass_104 : decode cX11_pass 104 = .ok (.getfield 25, 3) := by decide +kernel
theorem dX11_pass_107 : decode cX11_pass 107 = .ok (.bipush 27, 2) := by decide +kernel
theorem dX11_pass_109 : decode cX11_pass 109 = .ok (.dup2, 1) := by decide +kernel
theorem dX11_pass_110 : decode cX11_pass 110 = .ok (.iaload, 1) := by decide +kernel
theorem dX11_pass_111 : decode cX11_pass 111 = .ok (.iload 6, 2) := by decide +kernel
theorem dX11_pass_113 : decode cX11_pass 113 = .ok (.ifCond .eq 20, 3) := by decide +kernel
theorem dX11_pass_116 : decode cX11_pass 116 = .ok (.aload_n 0, 1) := by decide +kernel
theorem dX11_pass_117 : decode cX11_pass 117 = .ok (.getfield 25, 3) := by decide +kernel
theorem dX11_pass_120 : decode cX11_pass 120 = .ok (.bipush 27, 2) := by decide +kernel
theorem dX11_pass_122 : decode cX11_pass 122 = .ok (.iaload, 1) := by decide +kernel
theorem dX11_pass_123 : decode cX11_pass 123 = .ok (.sipush 9999, 3) := by decide +kernel
theorem dX11_pass_126 : decode cX11_pass 126 = .ok (.if_icmp .ge 7, 3) := by decide +kernel
theorem dX11_pass_129 : decode cX11_pass 129 = .ok (.iconst 1, 1) := by decide +kernel
theorem dX11_pass_130 : decode cX11_pass 130 = .ok (.goto 4, 3) := by decide +kernel
theorem dX11_pass_133 : decode cX11_pass 133 = .ok (.iconst 0, 1) := by decide +kernel
theorem dX11_pass_134 : decode cX11_pass 134 = .ok (.iadd, 1) := by decide +kernel
theorem dX11_pass_135 : decode cX11_pass 135 = .ok (.iastore, 1) := by decide +kernel
theorem dX11_pass_136 : decode cX11_pass 136 = .ok (.aload_n 0, 1) := by decide +kernel
theorem dX11_pass_137 : decode cX11_pass 137 = .ok (.getfield 25, 3) := by decide +kernel
theorem dX11_pass_140 : decode cX11_pass 140 = .ok (.bipush 7, 2) := by decide +kernel
theorem dX11_pass_142 : decode cX11_pass 142 = .ok (.iload_n 3, 1) := by decide +kernel
theorem dX11_pass_143 : decode cX11_pass 143 = .ok (.iadd, 1) := by decide +kernel
theorem dX11_pass_144 : decode cX11_pass 144 = .ok (.dup2, 1) := by decide +kernel
theorem dX11_pass_145 : decode cX11_pass 145 = .ok (.iaload, 1) := by decide +kernel
theorem dX11_pass_146 : decode cX11_pass 146 = .ok (.iload 5, 2) := by decide +kernel
theorem dX11_pass_148 : decode cX11_pass 148 = .ok (.isub, 1) := by decide +kernel
theorem dX11_pass_149 : decode cX11_pass 149 = .ok (.iastore, 1) := by decide +kernel
theorem dX11_pass_150 : decode cX11_pass 150 = .ok (.iload_n 2, 1) := by decide +kernel
theorem dX11_pass_151 : decode cX11_pass 151 = .ok (.iload 5, 2) := by decide +kernel
theorem dX11_pass_153 : decode cX11_pass 153 = .ok (.iadd, 1) := by decide +kernel
theorem dX11_pass_154 : decode cX11_pass 154 = .ok (.istore_n 2, 1) := by decide +kernel
theorem dX11_pass_155 : decode cX11_pass 155 = .ok (.iinc 3 1, 3) := by decide +kernel
theorem dX11_pass_158 : decode cX11_pass 158 = .ok (.goto (-152), 3) := by decide +kernel
theorem dX11_pass_161 : decode cX11_pass 161 = .ok (.aload_n 0, 1) := by decide +kernel
theorem dX11_pass_162 : decode cX11_pass 162 = .ok (.getfield 25, 3) := by decide +kernel
theorem dX11_pass_165 : decode cX11_pass 165 = .ok (.bipush 26, 2) := by decide +kernel
theorem dX11_pass_167 : decode cX11_pass 167 = .ok (.aload_n 0, 1) := by decide +kernel
theorem dX11_pass_168 : decode cX11_pass 168 = .ok (.getfield 25, 3) := by decide +kernel
theorem dX11_pass_171 : decode cX11_pass 171 = .ok (.bipush 26, 2) := by decide +kernel
theorem dX11_pass_173 : decode cX11_pass 173 = .ok (.iaload, 1) := by decide +kernel
theorem dX11_pass_174 : decode cX11_pass 174 = .ok (.iload_n 2, 1) := by decide +kernel
theorem dX11_pass_175 : decode cX11_pass 175 = .ok (.iadd, 1) := by decide +kernel
theorem dX11_pass_176 : decode cX11_pass 176 = .ok (.ldc 238, 2) := by decide +kernel
theorem dX11_pass_178 : decode cX11_pass 178 = .ok (.if_icmp .ge 15, 3) := by decide +kernel
theorem dX11_pass_181 : decode cX11_pass 181 = .ok (.aload_n 0, 1) := by decide +kernel
theorem dX11_pass_182 : decode cX11_pass 182 = .ok (.getfield 25, 3) := by decide +kernel
theorem dX11_pass_185 : decode cX11_pass 185 = .ok (.bipush 26, 2) := by decide +kernel
theorem dX11_pass_187 : decode cX11_pass 187 = .ok (.iaload, 1) := by decide +kernel
theorem dX11_pass_188 : decode cX11_pass 188 = .ok (.iload_n 2, 1) := by decide +kernel
theorem dX11_pass_189 : decode cX11_pass 189 = .ok (.iadd, 1) := by decide +kernel
theorem dX11_pass_190 : decode cX11_pass 190 = .ok (.goto 5, 3) := by decide +kernel
theorem dX11_pass_193 : decode cX11_pass 193 = .ok (.ldc 238, 2) := by decide +kernel
theorem dX11_pass_195 : decode cX11_pass 195 = .ok (.iastore, 1) := by decide +kernel
theorem dX11_pass_196 : decode cX11_pass 196 = .ok (.iconst 0, 1) := by decide +kernel
theorem dX11_pass_197 : decode cX11_pass 197 = .ok (.istore_n 3, 1) := by decide +kernel
theorem dX11_pass_198 : decode cX11_pass 198 = .ok (.iload_n 3, 1) := by decide +kernel
theorem dX11_pass_199 : decode cX11_pass 199 = .ok (.aload_n 0, 1) := by decide +kernel
theorem dX11_pass_200 : decode cX11_pass 200 = .ok (.getfield 81, 3) := by decide +kernel
theorem dX11_pass_203 : decode cX11_pass 203 = .ok (.if_icmp .ge 22, 3) := by decide +kernel
theorem dX11_pass_206 : decode cX11_pass 206 = .ok (.iload_n 1, 1) := by decide +kernel
theorem dX11_pass_207 : decode cX11_pass 207 = .ok (.iload_n 3, 1) := by decide +kernel
theorem dX11_pass_208 : decode cX11_pass 208 = .ok (.invokestatic 203, 3) := by decide +kernel
theorem dX11_pass_211 : decode cX11_pass 211 = .ok (.ifCond .eq 8, 3) := by decide +kernel
theorem dX11_pass_214 : decode cX11_pass 214 = .ok (.aload_n 0, 1) := by decide +kernel
theorem dX11_pass_215 : decode cX11_pass 215 = .ok (.iload_n 3, 1) := by decide +kernel
theorem dX11_pass_216 : decode cX11_pass 216 = .ok (.invokevirtual 239, 3) := by decide +kernel
theorem dX11_pass_219 : decode cX11_pass 219 = .ok (.iinc 3 1, 3) := by decide +kernel
