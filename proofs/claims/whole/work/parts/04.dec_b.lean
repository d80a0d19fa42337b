theorem dX10_init_0 : decode cX10_init 0 = .ok (.aload_n 0, 1) := by decide +kernel
theorem dX10_init_1 : decode cX10_init 1 = .ok (.invokespecial 1, 3) := by decide +kernel
theorem dX10_init_4 : decode cX10_init 4 = .ok (.new 7, 3) := by decide +kernel
theorem dX10_init_7 : decode cX10_init 7 = .ok (.dup, 1) := by decide +kernel
theorem dX10_init_8 : decode cX10_init 8 = .ok (.invokespecial 9, 3) := by decide +kernel
theorem dX10_init_11 : decode cX10_init 11 = .ok (.astore_n 1, 1) := by decide +kernel
theorem dX10_init_12 : decode cX10_init 12 = .ok (.iconst 2, 1) := by decide +kernel
theorem dX10_init_13 : decode cX10_init 13 = .ok (.anewarray 12, 3) := by decide +kernel
theorem dX10_init_16 : decode cX10_init 16 = .ok (.astore_n 2, 1) := by decide +kernel
theorem dX10_init_17 : decode cX10_init 17 = .ok (.iconst 0, 1) := by decide +kernel
theorem dX10_init_18 : decode cX10_init 18 = .ok (.istore_n 3, 1) := by decide +kernel
theorem dX10_init_19 : decode cX10_init 19 = .ok (.iload_n 3, 1) := by decide +kernel
theorem dX10_init_20 : decode cX10_init 20 = .ok (.iconst 2, 1) := by decide +kernel
theorem dX10_init_21 : decode cX10_init 21 = .ok (.if_icmp .ge 20, 3) := by decide +kernel
theorem dX10_init_24 : decode cX10_init 24 = .ok (.aload_n 2, 1) := by decide +kernel
theorem dX10_init_25 : decode cX10_init 25 = .ok (.iload_n 3, 1) := by decide +kernel
theorem dX10_init_26 : decode cX10_init 26 = .ok (.new 12, 3) := by decide +kernel
theorem dX10_init_29 : decode cX10_init 29 = .ok (.dup, 1) := by decide +kernel
theorem dX10_init_30 : decode cX10_init 30 = .ok (.aload_n 1, 1) := by decide +kernel
theorem dX10_init_31 : decode cX10_init 31 = .ok (.invokespecial 14, 3) := by decide +kernel
theorem dX10_init_34 : decode cX10_init 34 = .ok (.aastore, 1) := by decide +kernel
theorem dX10_init_35 : decode cX10_init 35 = .ok (.iinc 3 1, 3) := by decide +kernel
theorem dX10_init_38 : decode cX10_init 38 = .ok (.goto (-19), 3) := by decide +kernel
theorem dX10_init_41 : decode cX10_init 41 = .ok (.aload_n 0, 1) := by decide +kernel
theorem dX10_init_42 : decode cX10_init 42 = .ok (.new 17, 3) := by decide +kernel
theorem dX10_init_45 : decode cX10_init 45 = .ok (.dup, 1) := by decide +kernel
theorem dX10_init_46 : decode cX10_init 46 = .ok (.invokespecial 19, 3) := by decide +kernel
theorem dX10_init_49 : decode cX10_init 49 = .ok (.putfield 20, 3) := by decide +kernel
theorem dX10_init_52 : decode cX10_init 52 = .ok (.aload_n 0, 1) := by decide +kernel
theorem dX10_init_53 : decode cX10_init 53 = .ok (.new 7, 3) := by decide +kernel
theorem dX10_init_56 : decode cX10_init 56 = .ok (.dup, 1) := by decide +kernel
theorem dX10_init_57 : decode cX10_init 57 = .ok (.invokespecial 9, 3) := by decide +kernel
theorem dX10_init_60 : decode cX10_init 60 = .ok (.putfield 24, 3) := by decide +kernel
theorem dX10_init_63 : decode cX10_init 63 = .ok (.aload_n 0, 1) := by decide +kernel
theorem dX10_init_64 : decode cX10_init 64 = .ok (.aload_n 1, 1) := by decide +kernel
theorem dX10_init_65 : decode cX10_init 65 = .ok (.putfield 28, 3) := by decide +kernel
theorem dX10_init_68 : decode cX10_init 68 = .ok (.aload_n 0, 1) := by decide +kernel
theorem dX10_init_69 : decode cX10_init 69 = .ok (.new 31, 3) := by decide +kernel
theorem dX10_init_72 : decode cX10_init 72 = .ok (.dup, 1) := by decide +kernel
theorem dX10_init_73 : decode cX10_init 73 = .ok (.aload_n 1, 1) := by decide +kernel
theorem dX10_init_74 : decode cX10_init 74 = .ok (.invokespecial 33, 3) := by decide +kernel
theorem dX10_init_77 : decode cX10_init 77 = .ok (.putfield 34, 3) := by decide +kernel
theorem dX10_init_80 : decode cX10_init 80 = .ok (.aload_n 0, 1) := by decide +kernel
theorem dX10_init_81 : decode cX10_init 81 = .ok (.new 31, 3) := by decide +kernel
theorem dX10_init_84 : decode cX10_init 84 = .ok (.dup, 1) := by decide +kernel
theorem dX10_init_85 : decode cX10_init 85 = .ok (.aload_n 1, 1) := by decide +kernel
theorem dX10_init_86 : decode cX10_init 86 = .ok (.invokespecial 33, 3) := by decide +kernel
theorem dX10_init_89 : decode cX10_init 89 = .ok (.putfield 38, 3) := by decide +kernel
theorem dX10_init_92 : decode cX10_init 92 = .ok (.aload_n 0, 1) := by decide +kernel
theorem dX10_init_93 : decode cX10_init 93 = .ok (.new 41, 3) := by decide +kernel
theorem dX10_init_96 : decode cX10_init 96 = .ok (.dup, 1) := by decide +kernel
theorem dX10_init_97 : decode cX10_init 97 = .ok (.aload_n 1, 1) := by decide +kernel
theorem dX10_init_98 : decode cX10_init 98 = .ok (.invokespecial 43, 3) := by decide +kernel
theorem dX10_init_101 : decode cX10_init 101 = .ok (.putfield 44, 3) := by decide +kernel
theorem dX10_init_104 : decode cX10_init 104 = .ok (.aload_n 0, 1) := by decide +kernel
theorem dX10_init_105 : decode cX10_init 105 = .ok (.aload_n 2, 1) := by decide +kernel
theorem dX10_init_106 : decode cX10_init 106 = .ok (.putfield 48, 3) := by decide +kernel
theorem dX10_init_109 : decode cX10_init 109 = .ok (.aload_n 0, 1) := by decide +kernel
theorem dX10_init_110 : decode cX10_init 110 = .ok (.new 52, 3) := by decide +kernel
theorem dX10_init_113 : decode cX10_init 113 = .ok (.dup, 1) := by decide +kernel
theorem dX10_init_114 : decode cX10_init 114 = .ok (.invokespecial 54, 3) := by decide +kernel
theorem dX10_init_117 : decode cX10_init 117 = .ok (.putfield 55, 3) := by decide +kernel
theorem dX10_init_120 : decode cX10_init 120 = .ok (.aload_n 0, 1) := by decide +kernel
theorem dX10_init_121 : decode cX10_init 121 = .ok (.new 59, 3) := by decide +kernel
theorem dX10_init_124 : decode cX10_init 124 = .ok (.dup, 1) := by decide +kernel
theorem dX10_init_125 : decode cX10_init 125 = .ok (.invokespecial 61, 3) := by decide +kernel
theorem dX10_init_128 : decode cX10_init 128 = .ok (.putfield 62, 3) := by decide +kernel
theorem dX10_init_131 : decode cX10_init 131 = .ok (.aload_n 0, 1) := by decide +kernel
theorem dX10_init_132 : decode cX10_init 132 = .ok (.new 66, 3) := by decide +kernel
theorem dX10_init_135 : decode cX10_init 135 = .ok (.dup, 1) := by decide +kernel
theorem dX10_init_136 : decode cX10_init 136 = .ok (.aload_n 1, 1) := by decide +kernel
theorem dX10_init_137 : decode cX10_init 137 = .ok (.invokespecial 68, 3) := by decide +kernel
theorem dX10_init_140 : decode cX10_init 140 = .ok (.putfield 69, 3) := by decide +kernel
theorem dX10_init_143 : decode cX10_init 143 = .ok (.aload_n 0, 1) := by decide +kernel
theorem dX10_init_144 : decode cX10_init 144 = .ok (.new 73, 3) := by decide +kernel
theorem dX10_init_147 : decode cX10_init 147 = .ok (.dup, 1) := by decide +kernel
theorem dX10_init_148 : decode cX10_init 148 = .ok (.aload_n 1, 1) := by decide +kernel
theorem dX10_init_149 : decode cX10_init 149 = .ok (.invokespecial 75, 3) := by decide +kernel
theorem dX10_init_152 : decode cX10_init 152 = .ok (.putfield 76, 3) := by decide +kernel
theorem dX10_init_155 : decode cX10_init 155 = .ok (.aload_n 0, 1) := by decide +kernel
theorem dX10_init_156 : decode cX10_init 156 = .ok (.new 80, 3) := by decide +kernel
theorem dX10_init_159 : decode cX10_init 159 = .ok (.dup, 1) := by decide +kernel
theorem dX10_init_160 : decode cX10_init 160 = .ok (.invokespecial 82, 3) := by decide +kernel
theorem dX10_init_163 : decode cX10_init 163 = .ok (.putfield 83, 3) := by decide +kernel
theorem dX10_init_166 : decode cX10_init 166 = .ok (.return_, 1) := by decide +kernel
theorem dX10_feed_0 : decode cX10_feed 0 = .ok (.iload_n 1, 1) := by decide +kernel
theorem dX10_feed_1 : decode cX10_feed 1 = .ok (.ifCond .lt 10, 3) := by decide +kernel
theorem dX10_feed_4 : decode cX10_feed 4 = .ok (.iload_n 1, 1) := by decide +kernel
theorem dX10_feed_5 : decode cX10_feed 5 = .ok (.sipush 255, 3) := by decide +kernel
theorem dX10_feed_8 : decode cX10_feed 8 = .ok (.if_icmp .le 6, 3) := by decide +kernel
theorem dX10_feed_11 : decode cX10_feed 11 = .ok (.ldc 87, 2) := by decide +kernel
theorem dX10_feed_13 : decode cX10_feed 13 = .ok (.ireturn, 1) := by decide +kernel
theorem dX10_feed_14 : decode cX10_feed 14 = .ok (.aload_n 0, 1) := by decide +kernel
theorem dX10_feed_15 : decode cX10_feed 15 = .ok (.getfield 20, 3) := by decide +kernel
theorem dX10_feed_18 : decode cX10_feed 18 = .ok (.iload_n 1, 1) := by decide +kernel
theorem dX10_feed_19 : decode cX10_feed 19 = .ok (.invokevirtual 88, 3) := by decide +kernel
theorem dX10_feed_22 : decode cX10_feed 22 = .ok (.ifCond .eq 13, 3) := by decide +kernel
theorem dX10_feed_25 : decode cX10_feed 25 = .ok (.aload_n 0, 1) := by decide +kernel
theorem dX10_feed_26 : decode cX10_feed 26 = .ok (.getfield 20, 3) := by decide +kernel
theorem dX10_feed_29 : decode cX10_feed 29 = .ok (.getfield 92, 3) := by decide +kernel
theorem dX10_feed_32 : decode cX10_feed 32 = .ok (.goto 5, 3) := by decide +kernel
theorem dX10_feed_35 : decode cX10_feed 35 = .ok (.ldc 96, 2) := by decide +kernel
theorem dX10_feed_37 : decode cX10_feed 37 = .ok (.ireturn, 1) := by decide +kernel
theorem dX10_duchy_0 : decode cX10_duchy 0 = .ok (.aload_n 0, 1) := by decide +kernel
theorem dX10_duchy_1 : decode cX10_duchy 1 = .ok (.getfield 20, 3) := by decide +kernel
theorem dX10_duchy_4 : decode cX10_duchy 4 = .ok (.aload_n 0, 1) := by decide +kernel
theorem dX10_duchy_5 : decode cX10_duchy 5 = .ok (.getfield 24, 3) := by decide +kernel
theorem dX10_duchy_8 : decode cX10_duchy 8 = .ok (.invokevirtual 97, 3) := by decide +kernel
theorem dX10_duchy_11 : decode cX10_duchy 11 = .ok (.istore_n 1, 1) := by decide +kernel
theorem dX10_duchy_12 : decode cX10_duchy 12 = .ok (.iload_n 1, 1) := by decide +kernel
theorem dX10_duchy_13 : decode cX10_duchy 13 = .ok (.ifCond .eq 8, 3) := by decide +kernel
theorem dX10_duchy_16 : decode cX10_duchy 16 = .ok (.bipush (-10), 2) := by decide +kernel
theorem dX10_duchy_18 : decode cX10_duchy 18 = .ok (.iload_n 1, 1) := by decide +kernel
theorem dX10_duchy_19 : decode cX10_duchy 19 = .ok (.isub, 1) := by decide +kernel
theorem dX10_duchy_20 : decode cX10_duchy 20 = .ok (.ireturn, 1) := by decide +kernel
theorem dX10_duchy_21 : decode cX10_duchy 21 = .ok (.aload_n 0, 1) := by decide +kernel
theorem dX10_duchy_22 : decode cX10_duchy 22 = .ok (.getfield 28, 3) := by decide +kernel
theorem dX10_duchy_25 : decode cX10_duchy 25 = .ok (.aload_n 0, 1) := by decide +kernel
theorem dX10_duchy_26 : decode cX10_duchy 26 = .ok (.getfield 24, 3) := by decide +kernel
theorem dX10_duchy_29 : decode cX10_duchy 29 = .ok (.invokevirtual 101, 3) := by decide +kernel
theorem dX10_duchy_32 : decode cX10_duchy 32 = .ok (.aload_n 0, 1) := by decide +kernel
theorem dX10_duchy_33 : decode cX10_duchy 33 = .ok (.getfield 34, 3) := by decide +kernel
theorem dX10_duchy_36 : decode cX10_duchy 36 = .ok (.invokevirtual 104, 3) := by decide +kernel
theorem dX10_duchy_39 : decode cX10_duchy 39 = .ok (.aload_n 0, 1) := by decide +kernel
theorem dX10_duchy_40 : decode cX10_duchy 40 = .ok (.getfield 55, 3) := by decide +kernel
theorem dX10_duchy_43 : decode cX10_duchy 43 = .ok (.invokevirtual 107, 3) := by decide +kernel
theorem dX10_duchy_46 : decode cX10_duchy 46 = .ok (.aload_n 0, 1) := by decide +kernel
theorem dX10_duchy_47 : decode cX10_duchy 47 = .ok (.getfield 44, 3) := by decide +kernel
theorem dX10_duchy_50 : decode cX10_duchy 50 = .ok (.invokevirtual 110, 3) := by decide +kernel
theorem dX10_duchy_53 : decode cX10_duchy 53 = .ok (.iconst 0, 1) := by decide +kernel
theorem dX10_duchy_54 : decode cX10_duchy 54 = .ok (.istore_n 2, 1) := by decide +kernel
theorem dX10_duchy_55 : decode cX10_duchy 55 = .ok (.iload_n 2, 1) := by decide +kernel
theorem dX10_duchy_56 : decode cX10_duchy 56 = .ok (.iconst 2, 1) := by decide +kernel
theorem dX10_duchy_57 : decode cX10_duchy 57 = .ok (.if_icmp .ge 19, 3) := by decide +kernel
theorem dX10_duchy_60 : decode cX10_duchy 60 = .ok (.aload_n 0, 1) := by decide +kernel
theorem dX10_duchy_61 : decode cX10_duchy 61 = .ok (.getfield 48, 3) := by decide +kernel
theorem dX10_duchy_64 : decode cX10_duchy 64 = .ok (.iload_n 2, 1) := by decide +kernel
theorem dX10_duchy_65 : decode cX10_duchy 65 = .ok (.aaload, 1) := by decide +kernel
theorem dX10_duchy_66 : decode cX10_duchy 66 = .ok (.iconst 0, 1) := by decide +kernel
theorem dX10_duchy_67 : decode cX10_duchy 67 = .ok (.putfield 113, 3) := by decide +kernel
theorem dX10_duchy_70 : decode cX10_duchy 70 = .ok (.iinc 2 1, 3) := by decide +kernel
theorem dX10_duchy_73 : decode cX10_duchy 73 = .ok (.goto (-18), 3) := by decide +kernel
theorem dX10_duchy_76 : decode cX10_duchy 76 = .ok (.aload_n 0, 1) := by decide +kernel
theorem dX10_duchy_77 : decode cX10_duchy 77 = .ok (.getfield 28, 3) := by decide +kernel
theorem dX10_duchy_80 : decode cX10_duchy 80 = .ok (.getfield 117, 3) := by decide +kernel
theorem dX10_duchy_83 : decode cX10_duchy 83 = .ok (.ireturn, 1) := by decide +kernel
theorem dX10_fault_0 : decode cX10_fault 0 = .ok (.aload_n 0, 1) := by decide +kernel
theorem dX10_fault_1 : decode cX10_fault 1 = .ok (.getfield 20, 3) := by decide +kernel
theorem dX10_fault_4 : decode cX10_fault 4 = .ok (.getfield 120, 3) := by decide +kernel
theorem dX10_fault_7 : decode cX10_fault 7 = .ok (.ireturn, 1) := by decide +kernel
theorem dX10_told_0 : decode cX10_told 0 = .ok (.iload_n 1, 1) := by decide +kernel
theorem dX10_told_1 : decode cX10_told 1 = .ok (.tableswitch 234 0 19 #[95, 103, 111, 119, 127, 135, 143, 151, 159, 167, 175, 183, 191, 199, 204, 212, 212, 212, 218, 226], 95) := by decide +kernel
theorem dX10_told_96 : decode cX10_told 96 = .ok (.aload_n 0, 1) := by decide +kernel
theorem dX10_told_97 : decode cX10_told 97 = .ok (.getfield 34, 3) := by decide +kernel
theorem dX10_told_100 : decode cX10_told 100 = .ok (.getfield 123, 3) := by decide +kernel
theorem dX10_told_103 : decode cX10_told 103 = .ok (.ireturn, 1) := by decide +kernel
theorem dX10_told_104 : decode cX10_told 104 = .ok (.aload_n 0, 1) := by decide +kernel
theorem dX10_told_105 : decode cX10_told 105 = .ok (.getfield 28, 3) := by decide +kernel
theorem dX10_told_108 : decode cX10_told 108 = .ok (.getfield 126, 3) := by decide +kernel
theorem dX10_told_111 : decode cX10_told 111 = .ok (.ireturn, 1) := by decide +kernel
theorem dX10_told_112 : decode cX10_told 112 = .ok (.aload_n 0, 1) := by decide +kernel
theorem dX10_told_113 : decode cX10_told 113 = .ok (.getfield 28, 3) := by decide +kernel
theorem dX10_told_116 : decode cX10_told 116 = .ok (.getfield 129, 3) := by decide +kernel
theorem dX10_told_119 : decode cX10_told 119 = .ok (.ireturn, 1) := by decide +kernel
theorem dX10_told_120 : decode cX10_told 120 = .ok (.aload_n 0, 1) := by decide +kernel
theorem dX10_told_121 : decode cX10_told 121 = .ok (.getfield 28, 3) := by decide +kernel
theorem dX10_told_124 : decode cX10_told 124 = .ok (.getfield 117, 3) := by decide +kernel
theorem dX10_told_127 : decode cX10_told 127 = .ok (.ireturn, 1) := by decide +kernel
theorem dX10_told_128 : decode cX10_told 128 = .ok (.aload_n 0, 1) := by decide +kernel
theorem dX10_told_129 : decode cX10_told 129 = .ok (.getfield 28, 3) := by decide +kernel
theorem dX10_told_132 : decode cX10_told 132 = .ok (.getfield 132, 3) := by decide +kernel
theorem dX10_told_135 : decode cX10_told 135 = .ok (.ireturn, 1) := by decide +kernel
theorem dX10_told_136 : decode cX10_told 136 = .ok (.aload_n 0, 1) := by decide +kernel
theorem dX10_told_137 : decode cX10_told 137 = .ok (.getfield 20, 3) := by decide +kernel
theorem dX10_told_140 : decode cX10_told 140 = .ok (.getfield 92, 3) := by decide +kernel
theorem dX10_told_143 : decode cX10_told 143 = .ok (.ireturn, 1) := by decide +kernel
theorem dX10_told_144 : decode cX10_told 144 = .ok (.aload_n 0, 1) := by decide +kernel
theorem dX10_told_145 : decode cX10_told 145 = .ok (.getfield 34, 3) := by decide +kernel
theorem dX10_told_148 : decode cX10_told 148 = .ok (.getfield 135, 3) := by decide +kernel
theorem dX10_told_151 : decode cX10_told 151 = .ok (.ireturn, 1) := by decide +kernel
theorem dX10_told_152 : decode cX10_told 152 = .ok (.aload_n 0, 1) := by decide +kernel
theorem dX10_told_153 : decode cX10_told 153 = .ok (.getfield 34, 3) := by decide +kernel
theorem dX10_told_156 : decode cX10_told 156 = .ok (.invokevirtual 138, 3) := by decide +kernel
theorem dX10_told_159 : decode cX10_told 159 = .ok (.ireturn, 1) := by decide +kernel
theorem dX10_told_160 : decode cX10_told 160 = .ok (.aload_n 0, 1) := by decide +kernel
theorem dX10_told_161 : decode cX10_told 161 = .ok (.getfield 34, 3) := by decide +kernel
theorem dX10_told_164 : decode cX10_told 164 = .ok (.getfield 142, 3) := by decide +kernel
theorem dX10_told_167 : decode cX10_told 167 = .ok (.ireturn, 1) := by decide +kernel
theorem dX10_told_168 : decode cX10_told 168 = .ok (.aload_n 0, 1) := by decide +kernel
theorem dX10_told_169 : decode cX10_told 169 = .ok (.getfield 34, 3) := by decide +kernel
theorem dX10_told_172 : decode cX10_told 172 = .ok (.getfield 145, 3) := by decide +kernel
theorem dX10_told_175 : decode cX10_told 175 = .ok (.ireturn, 1) := by decide +kernel
theorem dX10_told_176 : decode cX10_told 176 = .ok (.aload_n 0, 1) := by decide +kernel
theorem dX10_told_177 : decode cX10_told 177 = .ok (.getfield 34, 3) := by decide +kernel
theorem dX10_told_180 : decode cX10_told 180 = .ok (.invokevirtual 148, 3) := by decide +kernel
theorem dX10_told_183 : decode cX10_told 183 = .ok (.ireturn, 1) := by decide +kernel
theorem dX10_told_184 : decode cX10_told 184 = .ok (.aload_n 0, 1) := by decide +kernel
theorem dX10_told_185 : decode cX10_told 185 = .ok (.getfield 34, 3) := by decide +kernel
theorem dX10_told_188 : decode cX10_told 188 = .ok (.invokevirtual 151, 3) := by decide +kernel
theorem dX10_told_191 : decode cX10_told 191 = .ok (.ireturn, 1) := by decide +kernel
theorem dX10_told_192 : decode cX10_told 192 = .ok (.aload_n 0, 1) := by decide +kernel
theorem dX10_told_193 : decode cX10_told 193 = .ok (.getfield 34, 3) := by decide +kernel
theorem dX10_told_196 : decode cX10_told 196 = .ok (.invokevirtual 154, 3) := by decide +kernel
theorem dX10_told_199 : decode cX10_told 199 = .ok (.ireturn, 1) := by decide +kernel
theorem dX10_told_200 : decode cX10_told 200 = .ok (.aload_n 0, 1) := by decide +kernel
theorem dX10_told_201 : decode cX10_told 201 = .ok (.invokevirtual 157, 3) := by decide +kernel
theorem dX10_told_204 : decode cX10_told 204 = .ok (.ireturn, 1) := by decide +kernel
theorem dX10_told_205 : decode cX10_told 205 = .ok (.aload_n 0, 1) := by decide +kernel
theorem dX10_told_206 : decode cX10_told 206 = .ok (.getfield 55, 3) := by decide +kernel
theorem dX10_told_209 : decode cX10_told 209 = .ok (.getfield 160, 3) := by decide +kernel
theorem dX10_told_212 : decode cX10_told 212 = .ok (.ireturn, 1) := by decide +kernel
theorem dX10_told_213 : decode cX10_told 213 = .ok (.aload_n 0, 1) := by decide +kernel
theorem dX10_told_214 : decode cX10_told 214 = .ok (.iload_n 1, 1) := by decide +kernel
theorem dX10_told_215 : decode cX10_told 215 = .ok (.invokevirtual 163, 3) := by decide +kernel
theorem dX10_told_218 : decode cX10_told 218 = .ok (.ireturn, 1) := by decide +kernel
theorem dX10_told_219 : decode cX10_told 219 = .ok (.aload_n 0, 1) := by decide +kernel
theorem dX10_told_220 : decode cX10_told 220 = .ok (.getfield 55, 3) := by decide +kernel
theorem dX10_told_223 : decode cX10_told 223 = .ok (.getfield 167, 3) := by decide +kernel
theorem dX10_told_226 : decode cX10_told 226 = .ok (.ireturn, 1) := by decide +kernel
theorem dX10_told_227 : decode cX10_told 227 = .ok (.aload_n 0, 1) := by decide +kernel
theorem dX10_told_228 : decode cX10_told 228 = .ok (.getfield 44, 3) := by decide +kernel
theorem dX10_told_231 : decode cX10_told 231 = .ok (.getfield 170, 3) := by decide +kernel
theorem dX10_told_234 : decode cX10_told 234 = .ok (.ireturn, 1) := by decide +kernel
theorem dX10_told_235 : decode cX10_told 235 = .ok (.ldc 87, 2) := by decide +kernel
theorem dX10_told_237 : decode cX10_told 237 = .ok (.ireturn, 1) := by decide +kernel
theorem dX10_singer_0 : decode cX10_singer 0 = .ok (.aload_n 0, 1) := by decide +kernel
theorem dX10_singer_1 : decode cX10_singer 1 = .ok (.getfield 28, 3) := by decide +kernel
theorem dX10_singer_4 : decode cX10_singer 4 = .ok (.iload_n 1, 1) := by decide +kernel
theorem dX10_singer_5 : decode cX10_singer 5 = .ok (.invokevirtual 173, 3) := by decide +kernel
theorem dX10_singer_8 : decode cX10_singer 8 = .ok (.ifCond .ne 6, 3) := by decide +kernel
theorem dX10_singer_11 : decode cX10_singer 11 = .ok (.ldc 176, 2) := by decide +kernel
theorem dX10_singer_13 : decode cX10_singer 13 = .ok (.ireturn, 1) := by decide +kernel
theorem dX10_singer_14 : decode cX10_singer 14 = .ok (.iload_n 2, 1) := by decide +kernel
theorem dX10_singer_15 : decode cX10_singer 15 = .ok (.tableswitch 103 0 5 #[37, 47, 57, 67, 77, 87], 37) := by decide +kernel
theorem dX10_singer_52 : decode cX10_singer 52 = .ok (.aload_n 0, 1) := by decide +kernel
theorem dX10_singer_53 : decode cX10_singer 53 = .ok (.getfield 28, 3) := by decide +kernel
theorem dX10_singer_56 : decode cX10_singer 56 = .ok (.getfield 177, 3) := by decide +kernel
theorem dX10_singer_59 : decode cX10_singer 59 = .ok (.iload_n 1, 1) := by decide +kernel
theorem dX10_singer_60 : decode cX10_singer 60 = .ok (.iaload, 1) := by decide +kernel
theorem dX10_singer_61 : decode cX10_singer 61 = .ok (.ireturn, 1) := by decide +kernel
theorem dX10_singer_62 : decode cX10_singer 62 = .ok (.aload_n 0, 1) := by decide +kernel
theorem dX10_singer_63 : decode cX10_singer 63 = .ok (.getfield 34, 3) := by decide +kernel
theorem dX10_singer_66 : decode cX10_singer 66 = .ok (.getfield 181, 3) := by decide +kernel
theorem dX10_singer_69 : decode cX10_singer 69 = .ok (.iload_n 1, 1) := by decide +kernel
theorem dX10_singer_70 : decode cX10_singer 70 = .ok (.iaload, 1) := by decide +kernel
theorem dX10_singer_71 : decode cX10_singer 71 = .ok (.ireturn, 1) := by decide +kernel
theorem dX10_singer_72 : decode cX10_singer 72 = .ok (.aload_n 0, 1) := by decide +kernel
theorem dX10_singer_73 : decode cX10_singer 73 = .ok (.getfield 34, 3) := by decide +kernel
theorem dX10_singer_76 : decode cX10_singer 76 = .ok (.getfield 184, 3) := by decide +kernel
theorem dX10_singer_79 : decode cX10_singer 79 = .ok (.iload_n 1, 1) := by decide +kernel
theorem dX10_singer_80 : decode cX10_singer 80 = .ok (.iaload, 1) := by decide +kernel
theorem dX10_singer_81 : decode cX10_singer 81 = .ok (.ireturn, 1) := by decide +kernel
theorem dX10_singer_82 : decode cX10_singer 82 = .ok (.aload_n 0, 1) := by decide +kernel
theorem dX10_singer_83 : decode cX10_singer 83 = .ok (.getfield 28, 3) := by decide +kernel
theorem dX10_singer_86 : decode cX10_singer 86 = .ok (.getfield 187, 3) := by decide +kernel
theorem dX10_singer_89 : decode cX10_singer 89 = .ok (.iload_n 1, 1) := by decide +kernel
theorem dX10_singer_90 : decode cX10_singer 90 = .ok (.iaload, 1) := by decide +kernel
theorem dX10_singer_91 : decode cX10_singer 91 = .ok (.ireturn, 1) := by decide +kernel
theorem dX10_singer_92 : decode cX10_singer 92 = .ok (.aload_n 0, 1) := by decide +kernel
theorem dX10_singer_93 : decode cX10_singer 93 = .ok (.getfield 34, 3) := by decide +kernel
theorem dX10_singer_96 : decode cX10_singer 96 = .ok (.getfield 190, 3) := by decide +kernel
theorem dX10_singer_99 : decode cX10_singer 99 = .ok (.iload_n 1, 1) := by decide +kernel
theorem dX10_singer_100 : decode cX10_singer 100 = .ok (.iaload, 1) := by decide +kernel
theorem dX10_singer_101 : decode cX10_singer 101 = .ok (.ireturn, 1) := by decide +kernel
theorem dX10_singer_102 : decode cX10_singer 102 = .ok (.aload_n 0, 1) := by decide +kernel
theorem dX10_singer_103 : decode cX10_singer 103 = .ok (.getfield 34, 3) := by decide +kernel
theorem dX10_singer_106 : decode cX10_singer 106 = .ok (.iload_n 1, 1) := by decide +kernel
theorem dX10_singer_107 : decode cX10_singer 107 = .ok (.aload_n 0, 1) := by decide +kernel
theorem dX10_singer_108 : decode cX10_singer 108 = .ok (.getfield 34, 3) := by decide +kernel
theorem dX10_singer_111 : decode cX10_singer 111 = .ok (.getfield 123, 3) := by decide +kernel
theorem dX10_singer_114 : decode cX10_singer 114 = .ok (.invokevirtual 193, 3) := by decide +kernel
theorem dX10_singer_117 : decode cX10_singer 117 = .ok (.ireturn, 1) := by decide +kernel
theorem dX10_singer_118 : decode cX10_singer 118 = .ok (.ldc 87, 2) := by decide +kernel
theorem dX10_singer_120 : decode cX10_singer 120 = .ok (.ireturn, 1) := by decide +kernel
theorem dX10_place_0 : decode cX10_place 0 = .ok (.aload_n 0, 1) := by decide +kernel
theorem dX10_place_1 : decode cX10_place 1 = .ok (.getfield 28, 3) := by decide +kernel
theorem dX10_place_4 : decode cX10_place 4 = .ok (.iload_n 1, 1) := by decide +kernel
theorem dX10_place_5 : decode cX10_place 5 = .ok (.invokevirtual 197, 3) := by decide +kernel
theorem dX10_place_8 : decode cX10_place 8 = .ok (.ifCond .ne 6, 3) := by decide +kernel
theorem dX10_place_11 : decode cX10_place 11 = .ok (.ldc 176, 2) := by decide +kernel
theorem dX10_place_13 : decode cX10_place 13 = .ok (.ireturn, 1) := by decide +kernel
theorem dX10_place_14 : decode cX10_place 14 = .ok (.iload_n 2, 1) := by decide +kernel
theorem dX10_place_15 : decode cX10_place 15 = .ok (.tableswitch 73 0 3 #[29, 38, 55, 64], 29) := by decide +kernel
theorem dX10_place_44 : decode cX10_place 44 = .ok (.aload_n 0, 1) := by decide +kernel
theorem dX10_place_45 : decode cX10_place 45 = .ok (.getfield 34, 3) := by decide +kernel
theorem dX10_place_48 : decode cX10_place 48 = .ok (.iload_n 1, 1) := by decide +kernel
theorem dX10_place_49 : decode cX10_place 49 = .ok (.invokevirtual 200, 3) := by decide +kernel
theorem dX10_place_52 : decode cX10_place 52 = .ok (.ireturn, 1) := by decide +kernel
theorem dX10_place_53 : decode cX10_place 53 = .ok (.aload_n 0, 1) := by decide +kernel
theorem dX10_place_54 : decode cX10_place 54 = .ok (.getfield 34, 3) := by decide +kernel
theorem dX10_place_57 : decode cX10_place 57 = .ok (.iload_n 1, 1) := by decide +kernel
theorem dX10_place_58 : decode cX10_place 58 = .ok (.invokevirtual 200, 3) := by decide +kernel
theorem dX10_place_61 : decode cX10_place 61 = .ok (.aload_n 0, 1) := by decide +kernel
theorem dX10_place_62 : decode cX10_place 62 = .ok (.getfield 34, 3) := by decide +kernel
theorem dX10_place_65 : decode cX10_place 65 = .ok (.invokevirtual 138, 3) := by decide +kernel
theorem dX10_place_68 : decode cX10_place 68 = .ok (.iand, 1) := by decide +kernel
theorem dX10_place_69 : decode cX10_place 69 = .ok (.ireturn, 1) := by decide +kernel
theorem dX10_place_70 : decode cX10_place 70 = .ok (.aload_n 0, 1) := by decide +kernel
theorem dX10_place_71 : decode cX10_place 71 = .ok (.getfield 34, 3) := by decide +kernel
theorem dX10_place_74 : decode cX10_place 74 = .ok (.iload_n 1, 1) := by decide +kernel
theorem dX10_place_75 : decode cX10_place 75 = .ok (.invokevirtual 203, 3) := by decide +kernel
theorem dX10_place_78 : decode cX10_place 78 = .ok (.ireturn, 1) := by decide +kernel
theorem dX10_place_79 : decode cX10_place 79 = .ok (.aload_n 0, 1) := by decide +kernel
theorem dX10_place_80 : decode cX10_place 80 = .ok (.getfield 34, 3) := by decide +kernel
theorem dX10_place_83 : decode cX10_place 83 = .ok (.iload_n 1, 1) := by decide +kernel
theorem dX10_place_84 : decode cX10_place 84 = .ok (.invokevirtual 206, 3) := by decide +kernel
theorem dX10_place_87 : decode cX10_place 87 = .ok (.ireturn, 1) := by decide +kernel
theorem dX10_place_88 : decode cX10_place 88 = .ok (.ldc 87, 2) := by decide +kernel
theorem dX10_place_90 : decode cX10_place 90 = .ok (.ireturn, 1) := by decide +kernel
theorem dX10_verse_0 : decode cX10_verse 0 = .ok (.aload_n 0, 1) := by decide +kernel
theorem dX10_verse_1 : decode cX10_verse 1 = .ok (.iload_n 1, 1) := by decide +kernel
theorem dX10_verse_2 : decode cX10_verse 2 = .ok (.invokevirtual 209, 3) := by decide +kernel
theorem dX10_verse_5 : decode cX10_verse 5 = .ok (.istore_n 2, 1) := by decide +kernel
theorem dX10_verse_6 : decode cX10_verse 6 = .ok (.iload_n 2, 1) := by decide +kernel
theorem dX10_verse_7 : decode cX10_verse 7 = .ok (.ifCond .eq 5, 3) := by decide +kernel
theorem dX10_verse_10 : decode cX10_verse 10 = .ok (.iload_n 2, 1) := by decide +kernel
theorem dX10_verse_11 : decode cX10_verse 11 = .ok (.ireturn, 1) := by decide +kernel
theorem dX10_verse_12 : decode cX10_verse 12 = .ok (.aload_n 0, 1) := by decide +kernel
theorem dX10_verse_13 : decode cX10_verse 13 = .ok (.getfield 44, 3) := by decide +kernel
theorem dX10_verse_16 : decode cX10_verse 16 = .ok (.aload_n 0, 1) := by decide +kernel
theorem dX10_verse_17 : decode cX10_verse 17 = .ok (.getfield 34, 3) := by decide +kernel
theorem dX10_verse_20 : decode cX10_verse 20 = .ok (.invokevirtual 212, 3) := by decide +kernel
theorem dX10_verse_23 : decode cX10_verse 23 = .ok (.iconst 0, 1) := by decide +kernel
theorem dX10_verse_24 : decode cX10_verse 24 = .ok (.istore_n 3, 1) := by decide +kernel
theorem dX10_verse_25 : decode cX10_verse 25 = .ok (.iload_n 3, 1) := by decide +kernel
theorem dX10_verse_26 : decode cX10_verse 26 = .ok (.iload_n 1, 1) := by decide +kernel
theorem dX10_verse_27 : decode cX10_verse 27 = .ok (.if_icmp .ge 16, 3) := by decide +kernel
theorem dX10_verse_30 : decode cX10_verse 30 = .ok (.aload_n 0, 1) := by decide +kernel
theorem dX10_verse_31 : decode cX10_verse 31 = .ok (.getfield 34, 3) := by decide +kernel
theorem dX10_verse_34 : decode cX10_verse 34 = .ok (.invokevirtual 216, 3) := by decide +kernel
theorem dX10_verse_37 : decode cX10_verse 37 = .ok (.iinc 3 1, 3) := by decide +kernel
theorem dX10_verse_40 : decode cX10_verse 40 = .ok (.goto (-15), 3) := by decide +kernel
theorem dX10_verse_43 : decode cX10_verse 43 = .ok (.aload_n 0, 1) := by decide +kernel
theorem dX10_verse_44 : decode cX10_verse 44 = .ok (.getfield 34, 3) := by decide +kernel
theorem dX10_verse_47 : decode cX10_verse 47 = .ok (.getfield 142, 3) := by decide +kernel
theorem dX10_verse_50 : decode cX10_verse 50 = .ok (.ireturn, 1) := by decide +kernel
theorem dX10_join_0 : decode cX10_join 0 = .ok (.aload_n 0, 1) := by decide +kernel
theorem dX10_join_1 : decode cX10_join 1 = .ok (.getfield 28, 3) := by decide +kernel
theorem dX10_join_4 : decode cX10_join 4 = .ok (.iload_n 1, 1) := by decide +kernel
theorem dX10_join_5 : decode cX10_join 5 = .ok (.invokevirtual 173, 3) := by decide +kernel
theorem dX10_join_8 : decode cX10_join 8 = .ok (.ifCond .ne 6, 3) := by decide +kernel
theorem dX10_join_11 : decode cX10_join 11 = .ok (.ldc 176, 2) := by decide +kernel
theorem dX10_join_13 : decode cX10_join 13 = .ok (.ireturn, 1) := by decide +kernel
theorem dX10_join_14 : decode cX10_join 14 = .ok (.aload_n 0, 1) := by decide +kernel
theorem dX10_join_15 : decode cX10_join 15 = .ok (.getfield 34, 3) := by decide +kernel
theorem dX10_join_18 : decode cX10_join 18 = .ok (.iload_n 1, 1) := by decide +kernel
theorem dX10_join_19 : decode cX10_join 19 = .ok (.invokevirtual 219, 3) := by decide +kernel
theorem dX10_join_22 : decode cX10_join 22 = .ok (.ifCond .eq 6, 3) := by decide +kernel
theorem dX10_join_25 : decode cX10_join 25 = .ok (.ldc 222, 2) := by decide +kernel
theorem dX10_join_27 : decode cX10_join 27 = .ok (.ireturn, 1) := by decide +kernel
theorem dX10_join_28 : decode cX10_join 28 = .ok (.aload_n 0, 1) := by decide +kernel
theorem dX10_join_29 : decode cX10_join 29 = .ok (.getfield 44, 3) := by decide +kernel
theorem dX10_join_32 : decode cX10_join 32 = .ok (.aload_n 0, 1) := by decide +kernel
theorem dX10_join_33 : decode cX10_join 33 = .ok (.getfield 34, 3) := by decide +kernel
theorem dX10_join_36 : decode cX10_join 36 = .ok (.invokevirtual 212, 3) := by decide +kernel
theorem dX10_join_39 : decode cX10_join 39 = .ok (.aload_n 0, 1) := by decide +kernel
theorem dX10_join_40 : decode cX10_join 40 = .ok (.getfield 34, 3) := by decide +kernel
theorem dX10_join_43 : decode cX10_join 43 = .ok (.iload_n 1, 1) := by decide +kernel
theorem dX10_join_44 : decode cX10_join 44 = .ok (.invokevirtual 223, 3) := by decide +kernel
theorem dX10_join_47 : decode cX10_join 47 = .ok (.aload_n 0, 1) := by decide +kernel
theorem dX10_join_48 : decode cX10_join 48 = .ok (.getfield 34, 3) := by decide +kernel
theorem dX10_join_51 : decode cX10_join 51 = .ok (.getfield 190, 3) := by decide +kernel
theorem dX10_join_54 : decode cX10_join 54 = .ok (.iload_n 1, 1) := by decide +kernel
theorem dX10_join_55 : decode cX10_join 55 = .ok (.iaload, 1) := by decide +kernel
theorem dX10_join_56 : decode cX10_join 56 = .ok (.ireturn, 1) := by decide +kernel
theorem dX10_hush_0 : decode cX10_hush 0 = .ok (.aload_n 0, 1) := by decide +kernel
theorem dX10_hush_1 : decode cX10_hush 1 = .ok (.getfield 28, 3) := by decide +kernel
theorem dX10_hush_4 : decode cX10_hush 4 = .ok (.iload_n 1, 1) := by decide +kernel
theorem dX10_hush_5 : decode cX10_hush 5 = .ok (.invokevirtual 173, 3) := by decide +kernel
theorem dX10_hush_8 : decode cX10_hush 8 = .ok (.ifCond .ne 6, 3) := by decide +kernel
theorem dX10_hush_11 : decode cX10_hush 11 = .ok (.ldc 176, 2) := by decide +kernel
theorem dX10_hush_13 : decode cX10_hush 13 = .ok (.ireturn, 1) := by decide +kernel
theorem dX10_hush_14 : decode cX10_hush 14 = .ok (.aload_n 0, 1) := by decide +kernel
theorem dX10_hush_15 : decode cX10_hush 15 = .ok (.getfield 34, 3) := by decide +kernel
theorem dX10_hush_18 : decode cX10_hush 18 = .ok (.iload_n 1, 1) := by decide +kernel
theorem dX10_hush_19 : decode cX10_hush 19 = .ok (.invokevirtual 219, 3) := by decide +kernel
theorem dX10_hush_22 : decode cX10_hush 22 = .ok (.ifCond .ne 6, 3) := by decide +kernel
theorem dX10_hush_25 : decode cX10_hush 25 = .ok (.ldc 222, 2) := by decide +kernel
theorem dX10_hush_27 : decode cX10_hush 27 = .ok (.ireturn, 1) := by decide +kernel
theorem dX10_hush_28 : decode cX10_hush 28 = .ok (.aload_n 0, 1) := by decide +kernel
theorem dX10_hush_29 : decode cX10_hush 29 = .ok (.getfield 44, 3) := by decide +kernel
theorem dX10_hush_32 : decode cX10_hush 32 = .ok (.aload_n 0, 1) := by decide +kernel
theorem dX10_hush_33 : decode cX10_hush 33 = .ok (.getfield 34, 3) := by decide +kernel
theorem dX10_hush_36 : decode cX10_hush 36 = .ok (.invokevirtual 212, 3) := by decide +kernel
theorem dX10_hush_39 : decode cX10_hush 39 = .ok (.aload_n 0, 1) := by decide +kernel
theorem dX10_hush_40 : decode cX10_hush 40 = .ok (.getfield 34, 3) := by decide +kernel
theorem dX10_hush_43 : decode cX10_hush 43 = .ok (.iload_n 1, 1) := by decide +kernel
theorem dX10_hush_44 : decode cX10_hush 44 = .ok (.invokevirtual 227, 3) := by decide +kernel
theorem dX10_hush_47 : decode cX10_hush 47 = .ok (.aload_n 0, 1) := by decide +kernel
theorem dX10_hush_48 : decode cX10_hush 48 = .ok (.getfield 34, 3) := by decide +kernel
theorem dX10_hush_51 : decode cX10_hush 51 = .ok (.aload_n 0, 1) := by decide +kernel
theorem dX10_hush_52 : decode cX10_hush 52 = .ok (.getfield 34, 3) := by decide +kernel
theorem dX10_hush_55 : decode cX10_hush 55 = .ok (.getfield 181, 3) := by decide +kernel
theorem dX10_hush_58 : decode cX10_hush 58 = .ok (.iload_n 1, 1) := by decide +kernel
theorem dX10_hush_59 : decode cX10_hush 59 = .ok (.iaload, 1) := by decide +kernel
theorem dX10_hush_60 : decode cX10_hush 60 = .ok (.invokevirtual 230, 3) := by decide +kernel
theorem dX10_hush_63 : decode cX10_hush 63 = .ok (.ireturn, 1) := by decide +kernel
theorem dX10_go_0 : decode cX10_go 0 = .ok (.aload_n 0, 1) := by decide +kernel
theorem dX10_go_1 : decode cX10_go 1 = .ok (.getfield 28, 3) := by decide +kernel
theorem dX10_go_4 : decode cX10_go 4 = .ok (.iload_n 1, 1) := by decide +kernel
theorem dX10_go_5 : decode cX10_go 5 = .ok (.invokevirtual 173, 3) := by decide +kernel
theorem dX10_go_8 : decode cX10_go 8 = .ok (.ifCond .eq 14, 3) := by decide +kernel
theorem dX10_go_11 : decode cX10_go 11 = .ok (.aload_n 0, 1) := by decide +kernel
theorem dX10_go_12 : decode cX10_go 12 = .ok (.getfield 28, 3) := by decide +kernel
theorem dX10_go_15 : decode cX10_go 15 = .ok (.iload_n 2, 1) := by decide +kernel
theorem dX10_go_16 : decode cX10_go 16 = .ok (.invokevirtual 197, 3) := by decide +kernel
theorem dX10_go_19 : decode cX10_go 19 = .ok (.ifCond .ne 6, 3) := by decide +kernel
theorem dX10_go_22 : decode cX10_go 22 = .ok (.ldc 176, 2) := by decide +kernel
theorem dX10_go_24 : decode cX10_go 24 = .ok (.ireturn, 1) := by decide +kernel
theorem dX10_go_25 : decode cX10_go 25 = .ok (.aload_n 0, 1) := by decide +kernel
theorem dX10_go_26 : decode cX10_go 26 = .ok (.getfield 34, 3) := by decide +kernel
theorem dX10_go_29 : decode cX10_go 29 = .ok (.getfield 181, 3) := by decide +kernel
theorem dX10_go_32 : decode cX10_go 32 = .ok (.iload_n 1, 1) := by decide +kernel
theorem dX10_go_33 : decode cX10_go 33 = .ok (.iaload, 1) := by decide +kernel
theorem dX10_go_34 : decode cX10_go 34 = .ok (.istore_n 3, 1) := by decide +kernel
theorem dX10_go_35 : decode cX10_go 35 = .ok (.iload_n 3, 1) := by decide +kernel
theorem dX10_go_36 : decode cX10_go 36 = .ok (.iload_n 2, 1) := by decide +kernel
theorem dX10_go_37 : decode cX10_go 37 = .ok (.if_icmp .ne 6, 3) := by decide +kernel
theorem dX10_go_40 : decode cX10_go 40 = .ok (.ldc 222, 2) := by decide +kernel
theorem dX10_go_42 : decode cX10_go 42 = .ok (.ireturn, 1) := by decide +kernel
theorem dX10_go_43 : decode cX10_go 43 = .ok (.aload_n 0, 1) := by decide +kernel
theorem dX10_go_44 : decode cX10_go 44 = .ok (.getfield 44, 3) := by decide +kernel
theorem dX10_go_47 : decode cX10_go 47 = .ok (.aload_n 0, 1) := by decide +kernel
theorem dX10_go_48 : decode cX10_go 48 = .ok (.getfield 34, 3) := by decide +kernel
theorem dX10_go_51 : decode cX10_go 51 = .ok (.invokevirtual 212, 3) := by decide +kernel
theorem dX10_go_54 : decode cX10_go 54 = .ok (.aload_n 0, 1) := by decide +kernel
theorem dX10_go_55 : decode cX10_go 55 = .ok (.getfield 34, 3) := by decide +kernel
theorem dX10_go_58 : decode cX10_go 58 = .ok (.iload_n 1, 1) := by decide +kernel
theorem dX10_go_59 : decode cX10_go 59 = .ok (.iload_n 2, 1) := by decide +kernel
theorem dX10_go_60 : decode cX10_go 60 = .ok (.invokevirtual 233, 3) := by decide +kernel
theorem dX10_go_63 : decode cX10_go 63 = .ok (.iload_n 3, 1) := by decide +kernel
theorem dX10_go_64 : decode cX10_go 64 = .ok (.ireturn, 1) := by decide +kernel
theorem dX10_give_0 : decode cX10_give 0 = .ok (.aload_n 0, 1) := by decide +kernel
theorem dX10_give_1 : decode cX10_give 1 = .ok (.getfield 28, 3) := by decide +kernel
theorem dX10_give_4 : decode cX10_give 4 = .ok (.iload_n 1, 1) := by decide +kernel
theorem dX10_give_5 : decode cX10_give 5 = .ok (.invokevirtual 173, 3) := by decide +kernel
theorem dX10_give_8 : decode cX10_give 8 = .ok (.ifCond .ne 6, 3) := by decide +kernel
theorem dX10_give_11 : decode cX10_give 11 = .ok (.ldc 176, 2) := by decide +kernel
theorem dX10_give_13 : decode cX10_give 13 = .ok (.ireturn, 1) := by decide +kernel
theorem dX10_give_14 : decode cX10_give 14 = .ok (.iload_n 2, 1) := by decide +kernel
theorem dX10_give_15 : decode cX10_give 15 = .ok (.iconst 1, 1) := by decide +kernel
theorem dX10_give_16 : decode cX10_give 16 = .ok (.if_icmp .lt 10, 3) := by decide +kernel
theorem dX10_give_19 : decode cX10_give 19 = .ok (.iload_n 2, 1) := by decide +kernel
theorem dX10_give_20 : decode cX10_give 20 = .ok (.sipush 999, 3) := by decide +kernel
theorem dX10_give_23 : decode cX10_give 23 = .ok (.if_icmp .le 6, 3) := by decide +kernel
theorem dX10_give_26 : decode cX10_give 26 = .ok (.ldc 87, 2) := by decide +kernel
theorem dX10_give_28 : decode cX10_give 28 = .ok (.ireturn, 1) := by decide +kernel
theorem dX10_give_29 : decode cX10_give 29 = .ok (.aload_n 0, 1) := by decide +kernel
theorem dX10_give_30 : decode cX10_give 30 = .ok (.getfield 44, 3) := by decide +kernel
theorem dX10_give_33 : decode cX10_give 33 = .ok (.aload_n 0, 1) := by decide +kernel
theorem dX10_give_34 : decode cX10_give 34 = .ok (.getfield 34, 3) := by decide +kernel
theorem dX10_give_37 : decode cX10_give 37 = .ok (.invokevirtual 212, 3) := by decide +kernel
theorem dX10_give_40 : decode cX10_give 40 = .ok (.aload_n 0, 1) := by decide +kernel
theorem dX10_give_41 : decode cX10_give 41 = .ok (.getfield 34, 3) := by decide +kernel
theorem dX10_give_44 : decode cX10_give 44 = .ok (.iload_n 1, 1) := by decide +kernel
theorem dX10_give_45 : decode cX10_give 45 = .ok (.iload_n 2, 1) := by decide +kernel
theorem dX10_give_46 : decode cX10_give 46 = .ok (.invokevirtual 237, 3) := by decide +kernel
theorem dX10_give_49 : decode cX10_give 49 = .ok (.aload_n 0, 1) := by decide +kernel
theorem dX10_give_50 : decode cX10_give 50 = .ok (.getfield 34, 3) := by decide +kernel
theorem dX10_give_53 : decode cX10_give 53 = .ok (.getfield 184, 3) := by decide +kernel
theorem dX10_give_56 : decode cX10_give 56 = .ok (.iload_n 1, 1) := by decide +kernel
theorem dX10_give_57 : decode cX10_give 57 = .ok (.iaload, 1) := by decide +kernel
theorem dX10_give_58 : decode cX10_give 58 = .ok (.ireturn, 1) := by decide +kernel
theorem dX10_rate_0 : decode cX10_rate 0 = .ok (.iload_n 1, 1) := by decide +kernel
theorem dX10_rate_1 : decode cX10_rate 1 = .ok (.iconst 1, 1) := by decide +kernel
theorem dX10_rate_2 : decode cX10_rate 2 = .ok (.if_icmp .lt 9, 3) := by decide +kernel
theorem dX10_rate_5 : decode cX10_rate 5 = .ok (.iload_n 1, 1) := by decide +kernel
theorem dX10_rate_6 : decode cX10_rate 6 = .ok (.bipush 9, 2) := by decide +kernel
theorem dX10_rate_8 : decode cX10_rate 8 = .ok (.if_icmp .le 6, 3) := by decide +kernel
theorem dX10_rate_11 : decode cX10_rate 11 = .ok (.ldc 87, 2) := by decide +kernel
theorem dX10_rate_13 : decode cX10_rate 13 = .ok (.ireturn, 1) := by decide +kernel
theorem dX10_rate_14 : decode cX10_rate 14 = .ok (.aload_n 0, 1) := by decide +kernel
theorem dX10_rate_15 : decode cX10_rate 15 = .ok (.getfield 28, 3) := by decide +kernel
theorem dX10_rate_18 : decode cX10_rate 18 = .ok (.invokevirtual 240, 3) := by decide +kernel
theorem dX10_rate_21 : decode cX10_rate 21 = .ok (.ifCond .eq 6, 3) := by decide +kernel
theorem dX10_rate_24 : decode cX10_rate 24 = .ok (.ldc 222, 2) := by decide +kernel
theorem dX10_rate_26 : decode cX10_rate 26 = .ok (.ireturn, 1) := by decide +kernel
theorem dX10_rate_27 : decode cX10_rate 27 = .ok (.aload_n 0, 1) := by decide +kernel
theorem dX10_rate_28 : decode cX10_rate 28 = .ok (.getfield 34, 3) := by decide +kernel
theorem dX10_rate_31 : decode cX10_rate 31 = .ok (.getfield 123, 3) := by decide +kernel
theorem dX10_rate_34 : decode cX10_rate 34 = .ok (.istore_n 2, 1) := by decide +kernel
theorem dX10_rate_35 : decode cX10_rate 35 = .ok (.aload_n 0, 1) := by decide +kernel
theorem dX10_rate_36 : decode cX10_rate 36 = .ok (.getfield 44, 3) := by decide +kernel
theorem dX10_rate_39 : decode cX10_rate 39 = .ok (.aload_n 0, 1) := by decide +kernel
theorem dX10_rate_40 : decode cX10_rate 40 = .ok (.getfield 34, 3) := by decide +kernel
theorem dX10_rate_43 : decode cX10_rate 43 = .ok (.invokevirtual 212, 3) := by decide +kernel
theorem dX10_rate_46 : decode cX10_rate 46 = .ok (.aload_n 0, 1) := by decide +kernel
theorem dX10_rate_47 : decode cX10_rate 47 = .ok (.getfield 34, 3) := by decide +kernel
theorem dX10_rate_50 : decode cX10_rate 50 = .ok (.iload_n 1, 1) := by decide +kernel
theorem dX10_rate_51 : decode cX10_rate 51 = .ok (.putfield 123, 3) := by decide +kernel
theorem dX10_rate_54 : decode cX10_rate 54 = .ok (.iload_n 2, 1) := by decide +kernel
theorem dX10_rate_55 : decode cX10_rate 55 = .ok (.ireturn, 1) := by decide +kernel
theorem dX10_inspect_0 : decode cX10_inspect 0 = .ok (.aload_n 0, 1) := by decide +kernel
theorem dX10_inspect_1 : decode cX10_inspect 1 = .ok (.getfield 28, 3) := by decide +kernel
theorem dX10_inspect_4 : decode cX10_inspect 4 = .ok (.iload_n 1, 1) := by decide +kernel
theorem dX10_inspect_5 : decode cX10_inspect 5 = .ok (.invokevirtual 244, 3) := by decide +kernel
theorem dX10_inspect_8 : decode cX10_inspect 8 = .ok (.ifCond .eq 14, 3) := by decide +kernel
theorem dX10_inspect_11 : decode cX10_inspect 11 = .ok (.aload_n 0, 1) := by decide +kernel
theorem dX10_inspect_12 : decode cX10_inspect 12 = .ok (.getfield 28, 3) := by decide +kernel
theorem dX10_inspect_15 : decode cX10_inspect 15 = .ok (.iload_n 2, 1) := by decide +kernel
theorem dX10_inspect_16 : decode cX10_inspect 16 = .ok (.invokevirtual 197, 3) := by decide +kernel
theorem dX10_inspect_19 : decode cX10_inspect 19 = .ok (.ifCond .ne 6, 3) := by decide +kernel
theorem dX10_inspect_22 : decode cX10_inspect 22 = .ok (.ldc 176, 2) := by decide +kernel
theorem dX10_inspect_24 : decode cX10_inspect 24 = .ok (.ireturn, 1) := by decide +kernel
theorem dX10_inspect_25 : decode cX10_inspect 25 = .ok (.aload_n 0, 1) := by decide +kernel
theorem dX10_inspect_26 : decode cX10_inspect 26 = .ok (.getfield 34, 3) := by decide +kernel
theorem dX10_inspect_29 : decode cX10_inspect 29 = .ok (.getfield 247, 3) := by decide +kernel
theorem dX10_inspect_32 : decode cX10_inspect 32 = .ok (.iload_n 1, 1) := by decide +kernel
theorem dX10_inspect_33 : decode cX10_inspect 33 = .ok (.iaload, 1) := by decide +kernel
theorem dX10_inspect_34 : decode cX10_inspect 34 = .ok (.istore_n 3, 1) := by decide +kernel
theorem dX10_inspect_35 : decode cX10_inspect 35 = .ok (.iload_n 3, 1) := by decide +kernel
theorem dX10_inspect_36 : decode cX10_inspect 36 = .ok (.iload_n 2, 1) := by decide +kernel
theorem dX10_inspect_37 : decode cX10_inspect 37 = .ok (.if_icmp .ne 6, 3) := by decide +kernel
theorem dX10_inspect_40 : decode cX10_inspect 40 = .ok (.ldc 222, 2) := by decide +kernel
theorem dX10_inspect_42 : decode cX10_inspect 42 = .ok (.ireturn, 1) := by decide +kernel
theorem dX10_inspect_43 : decode cX10_inspect 43 = .ok (.aload_n 0, 1) := by decide +kernel
theorem dX10_inspect_44 : decode cX10_inspect 44 = .ok (.getfield 44, 3) := by decide +kernel
theorem dX10_inspect_47 : decode cX10_inspect 47 = .ok (.aload_n 0, 1) := by decide +kernel
theorem dX10_inspect_48 : decode cX10_inspect 48 = .ok (.getfield 34, 3) := by decide +kernel
theorem dX10_inspect_51 : decode cX10_inspect 51 = .ok (.invokevirtual 212, 3) := by decide +kernel
theorem dX10_inspect_54 : decode cX10_inspect 54 = .ok (.aload_n 0, 1) := by decide +kernel
theorem dX10_inspect_55 : decode cX10_inspect 55 = .ok (.getfield 34, 3) := by decide +kernel
theorem dX10_inspect_58 : decode cX10_inspect 58 = .ok (.getfield 247, 3) := by decide +kernel
theorem dX10_inspect_61 : decode cX10_inspect 61 = .ok (.iload_n 1, 1) := by decide +kernel
theorem dX10_inspect_62 : decode cX10_inspect 62 = .ok (.iload_n 2, 1) := by decide +kernel
theorem dX10_inspect_63 : decode cX10_inspect 63 = .ok (.iastore, 1) := by decide +kernel
theorem dX10_inspect_64 : decode cX10_inspect 64 = .ok (.iload_n 3, 1) := by decide +kernel
theorem dX10_inspect_65 : decode cX10_inspect 65 = .ok (.ireturn, 1) := by decide +kernel
theorem dX10_drift_0 : decode cX10_drift 0 = .ok (.aload_n 0, 1) := by decide +kernel
theorem dX10_drift_1 : decode cX10_drift 1 = .ok (.iload_n 1, 1) := by decide +kernel
theorem dX10_drift_2 : decode cX10_drift 2 = .ok (.invokevirtual 209, 3) := by decide +kernel
theorem dX10_drift_5 : decode cX10_drift 5 = .ok (.istore_n 2, 1) := by decide +kernel
theorem dX10_drift_6 : decode cX10_drift 6 = .ok (.iload_n 2, 1) := by decide +kernel
theorem dX10_drift_7 : decode cX10_drift 7 = .ok (.ifCond .eq 5, 3) := by decide +kernel
theorem dX10_drift_10 : decode cX10_drift 10 = .ok (.iload_n 2, 1) := by decide +kernel
theorem dX10_drift_11 : decode cX10_drift 11 = .ok (.ireturn, 1) := by decide +kernel
theorem dX10_drift_12 : decode cX10_drift 12 = .ok (.aload_n 0, 1) := by decide +kernel
theorem dX10_drift_13 : decode cX10_drift 13 = .ok (.getfield 44, 3) := by decide +kernel
theorem dX10_drift_16 : decode cX10_drift 16 = .ok (.aload_n 0, 1) := by decide +kernel
theorem dX10_drift_17 : decode cX10_drift 17 = .ok (.getfield 34, 3) := by decide +kernel
theorem dX10_drift_20 : decode cX10_drift 20 = .ok (.invokevirtual 212, 3) := by decide +kernel
theorem dX10_drift_23 : decode cX10_drift 23 = .ok (.iconst 0, 1) := by decide +kernel
theorem dX10_drift_24 : decode cX10_drift 24 = .ok (.istore_n 3, 1) := by decide +kernel
theorem dX10_drift_25 : decode cX10_drift 25 = .ok (.iload_n 3, 1) := by decide +kernel
theorem dX10_drift_26 : decode cX10_drift 26 = .ok (.iload_n 1, 1) := by decide +kernel
theorem dX10_drift_27 : decode cX10_drift 27 = .ok (.if_icmp .ge 20, 3) := by decide +kernel
theorem dX10_drift_30 : decode cX10_drift 30 = .ok (.aload_n 0, 1) := by decide +kernel
theorem dX10_drift_31 : decode cX10_drift 31 = .ok (.invokevirtual 250, 3) := by decide +kernel
theorem dX10_drift_34 : decode cX10_drift 34 = .ok (.aload_n 0, 1) := by decide +kernel
theorem dX10_drift_35 : decode cX10_drift 35 = .ok (.getfield 34, 3) := by decide +kernel
theorem dX10_drift_38 : decode cX10_drift 38 = .ok (.invokevirtual 216, 3) := by decide +kernel
theorem dX10_drift_41 : decode cX10_drift 41 = .ok (.iinc 3 1, 3) := by decide +kernel
theorem dX10_drift_44 : decode cX10_drift 44 = .ok (.goto (-19), 3) := by decide +kernel
theorem dX10_drift_47 : decode cX10_drift 47 = .ok (.aload_n 0, 1) := by decide +kernel
theorem dX10_drift_48 : decode cX10_drift 48 = .ok (.getfield 34, 3) := by decide +kernel
theorem dX10_drift_51 : decode cX10_drift 51 = .ok (.getfield 142, 3) := by decide +kernel
theorem dX10_drift_54 : decode cX10_drift 54 = .ok (.ireturn, 1) := by decide +kernel
theorem dX10_undo_0 : decode cX10_undo 0 = .ok (.aload_n 0, 1) := by decide +kernel
theorem dX10_undo_1 : decode cX10_undo 1 = .ok (.getfield 44, 3) := by decide +kernel
theorem dX10_undo_4 : decode cX10_undo 4 = .ok (.aload_n 0, 1) := by decide +kernel
theorem dX10_undo_5 : decode cX10_undo 5 = .ok (.getfield 34, 3) := by decide +kernel
theorem dX10_undo_8 : decode cX10_undo 8 = .ok (.invokevirtual 253, 3) := by decide +kernel
theorem dX10_undo_11 : decode cX10_undo 11 = .ok (.ifCond .eq 13, 3) := by decide +kernel
theorem dX10_undo_14 : decode cX10_undo 14 = .ok (.aload_n 0, 1) := by decide +kernel
theorem dX10_undo_15 : decode cX10_undo 15 = .ok (.getfield 44, 3) := by decide +kernel
theorem dX10_undo_18 : decode cX10_undo 18 = .ok (.getfield 170, 3) := by decide +kernel
theorem dX10_undo_21 : decode cX10_undo 21 = .ok (.goto 5, 3) := by decide +kernel
theorem dX10_undo_24 : decode cX10_undo 24 = .ok (.ldc 222, 2) := by decide +kernel
theorem dX10_undo_26 : decode cX10_undo 26 = .ok (.ireturn, 1) := by decide +kernel
theorem dX10_treasury_0 : decode cX10_treasury 0 = .ok (.iload_n 1, 1) := by decide +kernel
theorem dX10_treasury_1 : decode cX10_treasury 1 = .ok (.ifCond .lt 10, 3) := by decide +kernel
theorem dX10_treasury_4 : decode cX10_treasury 4 = .ok (.iload_n 1, 1) := by decide +kernel
theorem dX10_treasury_5 : decode cX10_treasury 5 = .ok (.sipush 200, 3) := by decide +kernel
theorem dX10_treasury_8 : decode cX10_treasury 8 = .ok (.if_icmp .le 6, 3) := by decide +kernel
theorem dX10_treasury_11 : decode cX10_treasury 11 = .ok (.ldc 87, 2) := by decide +kernel
theorem dX10_treasury_13 : decode cX10_treasury 13 = .ok (.ireturn, 1) := by decide +kernel
theorem dX10_treasury_14 : decode cX10_treasury 14 = .ok (.aload_n 0, 1) := by decide +kernel
theorem dX10_treasury_15 : decode cX10_treasury 15 = .ok (.getfield 28, 3) := by decide +kernel
theorem dX10_treasury_18 : decode cX10_treasury 18 = .ok (.invokevirtual 240, 3) := by decide +kernel
theorem dX10_treasury_21 : decode cX10_treasury 21 = .ok (.ifCond .eq 6, 3) := by decide +kernel
theorem dX10_treasury_24 : decode cX10_treasury 24 = .ok (.ldc 222, 2) := by decide +kernel
theorem dX10_treasury_26 : decode cX10_treasury 26 = .ok (.ireturn, 1) := by decide +kernel
theorem dX10_treasury_27 : decode cX10_treasury 27 = .ok (.aload_n 0, 1) := by decide +kernel
theorem dX10_treasury_28 : decode cX10_treasury 28 = .ok (.getfield 38, 3) := by decide +kernel
theorem dX10_treasury_31 : decode cX10_treasury 31 = .ok (.aload_n 0, 1) := by decide +kernel
theorem dX10_treasury_32 : decode cX10_treasury 32 = .ok (.getfield 34, 3) := by decide +kernel
theorem dX10_treasury_35 : decode cX10_treasury 35 = .ok (.invokevirtual 257, 3) := by decide +kernel
theorem dX10_treasury_38 : decode cX10_treasury 38 = .ok (.iconst 0, 1) := by decide +kernel
theorem dX10_treasury_39 : decode cX10_treasury 39 = .ok (.istore_n 2, 1) := by decide +kernel
theorem dX10_treasury_40 : decode cX10_treasury 40 = .ok (.iload_n 2, 1) := by decide +kernel
theorem dX10_treasury_41 : decode cX10_treasury 41 = .ok (.iload_n 1, 1) := by decide +kernel
theorem dX10_treasury_42 : decode cX10_treasury 42 = .ok (.if_icmp .ge 16, 3) := by decide +kernel
theorem dX10_treasury_45 : decode cX10_treasury 45 = .ok (.aload_n 0, 1) := by decide +kernel
theorem dX10_treasury_46 : decode cX10_treasury 46 = .ok (.getfield 38, 3) := by decide +kernel
theorem dX10_treasury_49 : decode cX10_treasury 49 = .ok (.invokevirtual 216, 3) := by decide +kernel
theorem dX10_treasury_52 : decode cX10_treasury 52 = .ok (.iinc 2 1, 3) := by decide +kernel
theorem dX10_treasury_55 : decode cX10_treasury 55 = .ok (.goto (-15), 3) := by decide +kernel
theorem dX10_treasury_58 : decode cX10_treasury 58 = .ok (.aload_n 0, 1) := by decide +kernel
theorem dX10_treasury_59 : decode cX10_treasury 59 = .ok (.getfield 38, 3) := by decide +kernel
theorem dX10_treasury_62 : decode cX10_treasury 62 = .ok (.getfield 142, 3) := by decide +kernel
theorem dX10_treasury_65 : decode cX10_treasury 65 = .ok (.ireturn, 1) := by decide +kernel
theorem dX10_lasts_0 : decode cX10_lasts 0 = .ok (.aload_n 0, 1) := by decide +kernel
theorem dX10_lasts_1 : decode cX10_lasts 1 = .ok (.getfield 28, 3) := by decide +kernel
theorem dX10_lasts_4 : decode cX10_lasts 4 = .ok (.iload_n 1, 1) := by decide +kernel
theorem dX10_lasts_5 : decode cX10_lasts 5 = .ok (.invokevirtual 173, 3) := by decide +kernel
theorem dX10_lasts_8 : decode cX10_lasts 8 = .ok (.ifCond .ne 6, 3) := by decide +kernel
theorem dX10_lasts_11 : decode cX10_lasts 11 = .ok (.ldc 176, 2) := by decide +kernel
theorem dX10_lasts_13 : decode cX10_lasts 13 = .ok (.ireturn, 1) := by decide +kernel
theorem dX10_lasts_14 : decode cX10_lasts 14 = .ok (.aload_n 0, 1) := by decide +kernel
theorem dX10_lasts_15 : decode cX10_lasts 15 = .ok (.getfield 38, 3) := by decide +kernel
theorem dX10_lasts_18 : decode cX10_lasts 18 = .ok (.aload_n 0, 1) := by decide +kernel
theorem dX10_lasts_19 : decode cX10_lasts 19 = .ok (.getfield 34, 3) := by decide +kernel
theorem dX10_lasts_22 : decode cX10_lasts 22 = .ok (.invokevirtual 257, 3) := by decide +kernel
theorem dX10_lasts_25 : decode cX10_lasts 25 = .ok (.iconst 0, 1) := by decide +kernel
theorem dX10_lasts_26 : decode cX10_lasts 26 = .ok (.istore_n 2, 1) := by decide +kernel
theorem dX10_lasts_27 : decode cX10_lasts 27 = .ok (.iload_n 2, 1) := by decide +kernel
theorem dX10_lasts_28 : decode cX10_lasts 28 = .ok (.sipush 500, 3) := by decide +kernel
theorem dX10_lasts_31 : decode cX10_lasts 31 = .ok (.if_icmp .gt 29, 3) := by decide +kernel
theorem dX10_lasts_34 : decode cX10_lasts 34 = .ok (.aload_n 0, 1) := by decide +kernel
theorem dX10_lasts_35 : decode cX10_lasts 35 = .ok (.getfield 38, 3) := by decide +kernel
theorem dX10_lasts_38 : decode cX10_lasts 38 = .ok (.iload_n 1, 1) := by decide +kernel
theorem dX10_lasts_39 : decode cX10_lasts 39 = .ok (.invokevirtual 219, 3) := by decide +kernel
theorem dX10_lasts_42 : decode cX10_lasts 42 = .ok (.ifCond .ne 5, 3) := by decide +kernel
theorem dX10_lasts_45 : decode cX10_lasts 45 = .ok (.iload_n 2, 1) := by decide +kernel
theorem dX10_lasts_46 : decode cX10_lasts 46 = .ok (.ireturn, 1) := by decide +kernel
theorem dX10_lasts_47 : decode cX10_lasts 47 = .ok (.aload_n 0, 1) := by decide +kernel
theorem dX10_lasts_48 : decode cX10_lasts 48 = .ok (.getfield 38, 3) := by decide +kernel
theorem dX10_lasts_51 : decode cX10_lasts 51 = .ok (.invokevirtual 216, 3) := by decide +kernel
theorem dX10_lasts_54 : decode cX10_lasts 54 = .ok (.iinc 2 1, 3) := by decide +kernel
theorem dX10_lasts_57 : decode cX10_lasts 57 = .ok (.goto (-30), 3) := by decide +kernel
theorem dX10_lasts_60 : decode cX10_lasts 60 = .ok (.iconst (-1), 1) := by decide +kernel
theorem dX10_lasts_61 : decode cX10_lasts 61 = .ok (.ireturn, 1) := by decide +kernel
theorem dX10_more_0 : decode cX10_more 0 = .ok (.aload_n 0, 1) := by decide +kernel
theorem dX10_more_1 : decode cX10_more 1 = .ok (.getfield 28, 3) := by decide +kernel
theorem dX10_more_4 : decode cX10_more 4 = .ok (.iload_n 1, 1) := by decide +kernel
theorem dX10_more_5 : decode cX10_more 5 = .ok (.invokevirtual 173, 3) := by decide +kernel
theorem dX10_more_8 : decode cX10_more 8 = .ok (.ifCond .eq 14, 3) := by decide +kernel
theorem dX10_more_11 : decode cX10_more 11 = .ok (.aload_n 0, 1) := by decide +kernel
theorem dX10_more_12 : decode cX10_more 12 = .ok (.getfield 28, 3) := by decide +kernel
theorem dX10_more_15 : decode cX10_more 15 = .ok (.iload_n 2, 1) := by decide +kernel
theorem dX10_more_16 : decode cX10_more 16 = .ok (.invokevirtual 197, 3) := by decide +kernel
theorem dX10_more_19 : decode cX10_more 19 = .ok (.ifCond .ne 6, 3) := by decide +kernel
theorem dX10_more_22 : decode cX10_more 22 = .ok (.ldc 176, 2) := by decide +kernel
theorem dX10_more_24 : decode cX10_more 24 = .ok (.ireturn, 1) := by decide +kernel
theorem dX10_more_25 : decode cX10_more 25 = .ok (.aload_n 0, 1) := by decide +kernel
theorem dX10_more_26 : decode cX10_more 26 = .ok (.getfield 34, 3) := by decide +kernel
theorem dX10_more_29 : decode cX10_more 29 = .ok (.iload_n 1, 1) := by decide +kernel
theorem dX10_more_30 : decode cX10_more 30 = .ok (.invokevirtual 219, 3) := by decide +kernel
theorem dX10_more_33 : decode cX10_more 33 = .ok (.ifCond .eq 6, 3) := by decide +kernel
theorem dX10_more_36 : decode cX10_more 36 = .ok (.ldc 222, 2) := by decide +kernel
theorem dX10_more_38 : decode cX10_more 38 = .ok (.ireturn, 1) := by decide +kernel
theorem dX10_more_39 : decode cX10_more 39 = .ok (.aload_n 0, 1) := by decide +kernel
theorem dX10_more_40 : decode cX10_more 40 = .ok (.getfield 34, 3) := by decide +kernel
theorem dX10_more_43 : decode cX10_more 43 = .ok (.aload_n 0, 1) := by decide +kernel
theorem dX10_more_44 : decode cX10_more 44 = .ok (.getfield 34, 3) := by decide +kernel
theorem dX10_more_47 : decode cX10_more 47 = .ok (.getfield 123, 3) := by decide +kernel
theorem dX10_more_50 : decode cX10_more 50 = .ok (.iload_n 1, 1) := by decide +kernel
theorem dX10_more_51 : decode cX10_more 51 = .ok (.aload_n 0, 1) := by decide +kernel
theorem dX10_more_52 : decode cX10_more 52 = .ok (.getfield 34, 3) := by decide +kernel
theorem dX10_more_55 : decode cX10_more 55 = .ok (.iload_n 2, 1) := by decide +kernel
theorem dX10_more_56 : decode cX10_more 56 = .ok (.invokevirtual 230, 3) := by decide +kernel
theorem dX10_more_59 : decode cX10_more 59 = .ok (.iload_n 2, 1) := by decide +kernel
theorem dX10_more_60 : decode cX10_more 60 = .ok (.invokevirtual 259, 3) := by decide +kernel
theorem dX10_more_63 : decode cX10_more 63 = .ok (.ireturn, 1) := by decide +kernel
theorem dX10_bears_0 : decode cX10_bears 0 = .ok (.aload_n 0, 1) := by decide +kernel
theorem dX10_bears_1 : decode cX10_bears 1 = .ok (.getfield 28, 3) := by decide +kernel
theorem dX10_bears_4 : decode cX10_bears 4 = .ok (.iload_n 1, 1) := by decide +kernel
theorem dX10_bears_5 : decode cX10_bears 5 = .ok (.invokevirtual 263, 3) := by decide +kernel
theorem dX10_bears_8 : decode cX10_bears 8 = .ok (.ifCond .eq 14, 3) := by decide +kernel
theorem dX10_bears_11 : decode cX10_bears 11 = .ok (.aload_n 0, 1) := by decide +kernel
theorem dX10_bears_12 : decode cX10_bears 12 = .ok (.getfield 28, 3) := by decide +kernel
theorem dX10_bears_15 : decode cX10_bears 15 = .ok (.iload_n 2, 1) := by decide +kernel
theorem dX10_bears_16 : decode cX10_bears 16 = .ok (.invokevirtual 197, 3) := by decide +kernel
theorem dX10_bears_19 : decode cX10_bears 19 = .ok (.ifCond .ne 6, 3) := by decide +kernel
theorem dX10_bears_22 : decode cX10_bears 22 = .ok (.ldc 176, 2) := by decide +kernel
theorem dX10_bears_24 : decode cX10_bears 24 = .ok (.ireturn, 1) := by decide +kernel
theorem dX10_bears_25 : decode cX10_bears 25 = .ok (.iload_n 3, 1) := by decide +kernel
theorem dX10_bears_26 : decode cX10_bears 26 = .ok (.ifCond .lt 8, 3) := by decide +kernel
theorem dX10_bears_29 : decode cX10_bears 29 = .ok (.iload_n 3, 1) := by decide +kernel
theorem dX10_bears_30 : decode cX10_bears 30 = .ok (.iconst 1, 1) := by decide +kernel
theorem dX10_bears_31 : decode cX10_bears 31 = .ok (.if_icmp .le 6, 3) := by decide +kernel
theorem dX10_bears_34 : decode cX10_bears 34 = .ok (.ldc 87, 2) := by decide +kernel
theorem dX10_bears_36 : decode cX10_bears 36 = .ok (.ireturn, 1) := by decide +kernel
theorem dX10_bears_37 : decode cX10_bears 37 = .ok (.aload_n 0, 1) := by decide +kernel
theorem dX10_bears_38 : decode cX10_bears 38 = .ok (.getfield 34, 3) := by decide +kernel
theorem dX10_bears_41 : decode cX10_bears 41 = .ok (.iload_n 1, 1) := by decide +kernel
theorem dX10_bears_42 : decode cX10_bears 42 = .ok (.iload_n 2, 1) := by decide +kernel
theorem dX10_bears_43 : decode cX10_bears 43 = .ok (.invokevirtual 266, 3) := by decide +kernel
theorem dX10_bears_46 : decode cX10_bears 46 = .ok (.istore 4, 2) := by decide +kernel
theorem dX10_bears_48 : decode cX10_bears 48 = .ok (.iload_n 3, 1) := by decide +kernel
theorem dX10_bears_49 : decode cX10_bears 49 = .ok (.ifCond .ne 11, 3) := by decide +kernel
theorem dX10_bears_52 : decode cX10_bears 52 = .ok (.iload 4, 2) := by decide +kernel
theorem dX10_bears_54 : decode cX10_bears 54 = .ok (.invokestatic 269, 3) := by decide +kernel
theorem dX10_bears_57 : decode cX10_bears 57 = .ok (.goto 5, 3) := by decide +kernel
theorem dX10_bears_60 : decode cX10_bears 60 = .ok (.iload 4, 2) := by decide +kernel
theorem dX10_bears_62 : decode cX10_bears 62 = .ok (.ireturn, 1) := by decide +kernel
theorem dX10_shared_0 : decode cX10_shared 0 = .ok (.aload_n 0, 1) := by decide +kernel
theorem dX10_shared_1 : decode cX10_shared 1 = .ok (.getfield 28, 3) := by decide +kernel
theorem dX10_shared_4 : decode cX10_shared 4 = .ok (.iload_n 1, 1) := by decide +kernel
theorem dX10_shared_5 : decode cX10_shared 5 = .ok (.invokevirtual 263, 3) := by decide +kernel
theorem dX10_shared_8 : decode cX10_shared 8 = .ok (.ifCond .ne 6, 3) := by decide +kernel
theorem dX10_shared_11 : decode cX10_shared 11 = .ok (.ldc 176, 2) := by decide +kernel
theorem dX10_shared_13 : decode cX10_shared 13 = .ok (.ireturn, 1) := by decide +kernel
theorem dX10_shared_14 : decode cX10_shared 14 = .ok (.iload_n 2, 1) := by decide +kernel
theorem dX10_shared_15 : decode cX10_shared 15 = .ok (.iconst (-1), 1) := by decide +kernel
theorem dX10_shared_16 : decode cX10_shared 16 = .ok (.if_icmp .eq 17, 3) := by decide +kernel
theorem dX10_shared_19 : decode cX10_shared 19 = .ok (.aload_n 0, 1) := by decide +kernel
theorem dX10_shared_20 : decode cX10_shared 20 = .ok (.getfield 28, 3) := by decide +kernel
theorem dX10_shared_23 : decode cX10_shared 23 = .ok (.iload_n 2, 1) := by decide +kernel
theorem dX10_shared_24 : decode cX10_shared 24 = .ok (.invokevirtual 274, 3) := by decide +kernel
theorem dX10_shared_27 : decode cX10_shared 27 = .ok (.ifCond .ne 6, 3) := by decide +kernel
theorem dX10_shared_30 : decode cX10_shared 30 = .ok (.ldc 87, 2) := by decide +kernel
theorem dX10_shared_32 : decode cX10_shared 32 = .ok (.ireturn, 1) := by decide +kernel
theorem dX10_shared_33 : decode cX10_shared 33 = .ok (.aload_n 0, 1) := by decide +kernel
theorem dX10_shared_34 : decode cX10_shared 34 = .ok (.getfield 28, 3) := by decide +kernel
theorem dX10_shared_37 : decode cX10_shared 37 = .ok (.invokevirtual 240, 3) := by decide +kernel
theorem dX10_shared_40 : decode cX10_shared 40 = .ok (.ifCond .eq 6, 3) := by decide +kernel
theorem dX10_shared_43 : decode cX10_shared 43 = .ok (.ldc 222, 2) := by decide +kernel
theorem dX10_shared_45 : decode cX10_shared 45 = .ok (.ireturn, 1) := by decide +kernel
theorem dX10_shared_46 : decode cX10_shared 46 = .ok (.aload_n 0, 1) := by decide +kernel
theorem dX10_shared_47 : decode cX10_shared 47 = .ok (.getfield 28, 3) := by decide +kernel
theorem dX10_shared_50 : decode cX10_shared 50 = .ok (.iload_n 1, 1) := by decide +kernel
theorem dX10_shared_51 : decode cX10_shared 51 = .ok (.invokevirtual 277, 3) := by decide +kernel
theorem dX10_shared_54 : decode cX10_shared 54 = .ok (.aload_n 0, 1) := by decide +kernel
theorem dX10_shared_55 : decode cX10_shared 55 = .ok (.getfield 28, 3) := by decide +kernel
theorem dX10_shared_58 : decode cX10_shared 58 = .ok (.invokevirtual 280, 3) := by decide +kernel
theorem dX10_shared_61 : decode cX10_shared 61 = .ok (.if_icmp .eq 5, 3) := by decide +kernel
theorem dX10_shared_64 : decode cX10_shared 64 = .ok (.iconst (-1), 1) := by decide +kernel
theorem dX10_shared_65 : decode cX10_shared 65 = .ok (.ireturn, 1) := by decide +kernel
theorem dX10_shared_66 : decode cX10_shared 66 = .ok (.aload_n 0, 1) := by decide +kernel
theorem dX10_shared_67 : decode cX10_shared 67 = .ok (.getfield 69, 3) := by decide +kernel
theorem dX10_shared_70 : decode cX10_shared 70 = .ok (.iload_n 1, 1) := by decide +kernel
theorem dX10_shared_71 : decode cX10_shared 71 = .ok (.invokevirtual 283, 3) := by decide +kernel
theorem dX10_shared_74 : decode cX10_shared 74 = .ok (.iload_n 2, 1) := by decide +kernel
theorem dX10_shared_75 : decode cX10_shared 75 = .ok (.iconst (-1), 1) := by decide +kernel
theorem dX10_shared_76 : decode cX10_shared 76 = .ok (.if_icmp .ne 13, 3) := by decide +kernel
theorem dX10_shared_79 : decode cX10_shared 79 = .ok (.aload_n 0, 1) := by decide +kernel
theorem dX10_shared_80 : decode cX10_shared 80 = .ok (.getfield 69, 3) := by decide +kernel
theorem dX10_shared_83 : decode cX10_shared 83 = .ok (.getfield 286, 3) := by decide +kernel
theorem dX10_shared_86 : decode cX10_shared 86 = .ok (.goto 12, 3) := by decide +kernel
theorem dX10_shared_89 : decode cX10_shared 89 = .ok (.aload_n 0, 1) := by decide +kernel
theorem dX10_shared_90 : decode cX10_shared 90 = .ok (.getfield 69, 3) := by decide +kernel
theorem dX10_shared_93 : decode cX10_shared 93 = .ok (.getfield 289, 3) := by decide +kernel
theorem dX10_shared_96 : decode cX10_shared 96 = .ok (.iload_n 2, 1) := by decide +kernel
theorem dX10_shared_97 : decode cX10_shared 97 = .ok (.iaload, 1) := by decide +kernel
theorem dX10_shared_98 : decode cX10_shared 98 = .ok (.ireturn, 1) := by decide +kernel
theorem dX10_groups_0 : decode cX10_groups 0 = .ok (.aload_n 0, 1) := by decide +kernel
theorem dX10_groups_1 : decode cX10_groups 1 = .ok (.getfield 28, 3) := by decide +kernel
theorem dX10_groups_4 : decode cX10_groups 4 = .ok (.iload_n 1, 1) := by decide +kernel
theorem dX10_groups_5 : decode cX10_groups 5 = .ok (.invokevirtual 263, 3) := by decide +kernel
theorem dX10_groups_8 : decode cX10_groups 8 = .ok (.ifCond .eq 19, 3) := by decide +kernel
theorem dX10_groups_11 : decode cX10_groups 11 = .ok (.iload_n 2, 1) := by decide +kernel
theorem dX10_groups_12 : decode cX10_groups 12 = .ok (.iconst (-1), 1) := by decide +kernel
theorem dX10_groups_13 : decode cX10_groups 13 = .ok (.if_icmp .eq 17, 3) := by decide +kernel
theorem dX10_groups_16 : decode cX10_groups 16 = .ok (.aload_n 0, 1) := by decide +kernel
theorem dX10_groups_17 : decode cX10_groups 17 = .ok (.getfield 28, 3) := by decide +kernel
theorem dX10_groups_20 : decode cX10_groups 20 = .ok (.iload_n 2, 1) := by decide +kernel
theorem dX10_groups_21 : decode cX10_groups 21 = .ok (.invokevirtual 173, 3) := by decide +kernel
theorem dX10_groups_24 : decode cX10_groups 24 = .ok (.ifCond .ne 6, 3) := by decide +kernel
theorem dX10_groups_27 : decode cX10_groups 27 = .ok (.ldc 176, 2) := by decide +kernel
theorem dX10_groups_29 : decode cX10_groups 29 = .ok (.ireturn, 1) := by decide +kernel
theorem dX10_groups_30 : decode cX10_groups 30 = .ok (.aload_n 0, 1) := by decide +kernel
theorem dX10_groups_31 : decode cX10_groups 31 = .ok (.getfield 28, 3) := by decide +kernel
theorem dX10_groups_34 : decode cX10_groups 34 = .ok (.invokevirtual 240, 3) := by decide +kernel
theorem dX10_groups_37 : decode cX10_groups 37 = .ok (.ifCond .eq 6, 3) := by decide +kernel
theorem dX10_groups_40 : decode cX10_groups 40 = .ok (.ldc 222, 2) := by decide +kernel
theorem dX10_groups_42 : decode cX10_groups 42 = .ok (.ireturn, 1) := by decide +kernel
theorem dX10_groups_43 : decode cX10_groups 43 = .ok (.aload_n 0, 1) := by decide +kernel
theorem dX10_groups_44 : decode cX10_groups 44 = .ok (.getfield 76, 3) := by decide +kernel
theorem dX10_groups_47 : decode cX10_groups 47 = .ok (.iload_n 1, 1) := by decide +kernel
theorem dX10_groups_48 : decode cX10_groups 48 = .ok (.aload_n 0, 1) := by decide +kernel
theorem dX10_groups_49 : decode cX10_groups 49 = .ok (.getfield 34, 3) := by decide +kernel
theorem dX10_groups_52 : decode cX10_groups 52 = .ok (.invokevirtual 292, 3) := by decide +kernel
theorem dX10_groups_55 : decode cX10_groups 55 = .ok (.iload_n 2, 1) := by decide +kernel
theorem dX10_groups_56 : decode cX10_groups 56 = .ok (.iconst (-1), 1) := by decide +kernel
theorem dX10_groups_57 : decode cX10_groups 57 = .ok (.if_icmp .ne 13, 3) := by decide +kernel
theorem dX10_groups_60 : decode cX10_groups 60 = .ok (.aload_n 0, 1) := by decide +kernel
theorem dX10_groups_61 : decode cX10_groups 61 = .ok (.getfield 76, 3) := by decide +kernel
theorem dX10_groups_64 : decode cX10_groups 64 = .ok (.getfield 296, 3) := by decide +kernel
theorem dX10_groups_67 : decode cX10_groups 67 = .ok (.goto 12, 3) := by decide +kernel
theorem dX10_groups_70 : decode cX10_groups 70 = .ok (.aload_n 0, 1) := by decide +kernel
theorem dX10_groups_71 : decode cX10_groups 71 = .ok (.getfield 76, 3) := by decide +kernel
theorem dX10_groups_74 : decode cX10_groups 74 = .ok (.getfield 299, 3) := by decide +kernel
theorem dX10_groups_77 : decode cX10_groups 77 = .ok (.iload_n 2, 1) := by decide +kernel
theorem dX10_groups_78 : decode cX10_groups 78 = .ok (.iaload, 1) := by decide +kernel
theorem dX10_groups_79 : decode cX10_groups 79 = .ok (.ireturn, 1) := by decide +kernel
theorem dX10_rates_0 : decode cX10_rates 0 = .ok (.iload_n 1, 1) := by decide +kernel
theorem dX10_rates_1 : decode cX10_rates 1 = .ok (.ifCond .lt 10, 3) := by decide +kernel
theorem dX10_rates_4 : decode cX10_rates 4 = .ok (.iload_n 1, 1) := by decide +kernel
theorem dX10_rates_5 : decode cX10_rates 5 = .ok (.ldc_w 302, 3) := by decide +kernel
theorem dX10_rates_8 : decode cX10_rates 8 = .ok (.if_icmp .le 6, 3) := by decide +kernel
theorem dX10_rates_11 : decode cX10_rates 11 = .ok (.ldc 87, 2) := by decide +kernel
theorem dX10_rates_13 : decode cX10_rates 13 = .ok (.ireturn, 1) := by decide +kernel
theorem dX10_rates_14 : decode cX10_rates 14 = .ok (.iconst 1, 1) := by decide +kernel
theorem dX10_rates_15 : decode cX10_rates 15 = .ok (.istore_n 2, 1) := by decide +kernel
theorem dX10_rates_16 : decode cX10_rates 16 = .ok (.iload_n 2, 1) := by decide +kernel
theorem dX10_rates_17 : decode cX10_rates 17 = .ok (.bipush 9, 2) := by decide +kernel
theorem dX10_rates_19 : decode cX10_rates 19 = .ok (.if_icmp .gt 23, 3) := by decide +kernel
theorem dX10_rates_22 : decode cX10_rates 22 = .ok (.aload_n 0, 1) := by decide +kernel
theorem dX10_rates_23 : decode cX10_rates 23 = .ok (.getfield 34, 3) := by decide +kernel
theorem dX10_rates_26 : decode cX10_rates 26 = .ok (.iload_n 2, 1) := by decide +kernel
theorem dX10_rates_27 : decode cX10_rates 27 = .ok (.invokevirtual 303, 3) := by decide +kernel
theorem dX10_rates_30 : decode cX10_rates 30 = .ok (.iload_n 1, 1) := by decide +kernel
theorem dX10_rates_31 : decode cX10_rates 31 = .ok (.if_icmp .lt 5, 3) := by decide +kernel
theorem dX10_rates_34 : decode cX10_rates 34 = .ok (.iload_n 2, 1) := by decide +kernel
theorem dX10_rates_35 : decode cX10_rates 35 = .ok (.ireturn, 1) := by decide +kernel
theorem dX10_rates_36 : decode cX10_rates 36 = .ok (.iinc 2 1, 3) := by decide +kernel
theorem dX10_rates_39 : decode cX10_rates 39 = .ok (.goto (-23), 3) := by decide +kernel
theorem dX10_rates_42 : decode cX10_rates 42 = .ok (.iconst (-1), 1) := by decide +kernel
theorem dX10_rates_43 : decode cX10_rates 43 = .ok (.ireturn, 1) := by decide +kernel
theorem dX10_dry_0 : decode cX10_dry 0 = .ok (.iload_n 1, 1) := by decide +kernel
theorem dX10_dry_1 : decode cX10_dry 1 = .ok (.ifCond .lt 19, 3) := by decide +kernel
theorem dX10_dry_4 : decode cX10_dry 4 = .ok (.iload_n 1, 1) := by decide +kernel
theorem dX10_dry_5 : decode cX10_dry 5 = .ok (.bipush 60, 2) := by decide +kernel
theorem dX10_dry_7 : decode cX10_dry 7 = .ok (.if_icmp .gt 13, 3) := by decide +kernel
theorem dX10_dry_10 : decode cX10_dry 10 = .ok (.iload_n 2, 1) := by decide +kernel
theorem dX10_dry_11 : decode cX10_dry 11 = .ok (.ifCond .lt 9, 3) := by decide +kernel
theorem dX10_dry_14 : decode cX10_dry 14 = .ok (.iload_n 2, 1) := by decide +kernel
theorem dX10_dry_15 : decode cX10_dry 15 = .ok (.bipush 100, 2) := by decide +kernel
theorem dX10_dry_17 : decode cX10_dry 17 = .ok (.if_icmp .le 6, 3) := by decide +kernel
theorem dX10_dry_20 : decode cX10_dry 20 = .ok (.ldc 87, 2) := by decide +kernel
theorem dX10_dry_22 : decode cX10_dry 22 = .ok (.ireturn, 1) := by decide +kernel
theorem dX10_dry_23 : decode cX10_dry 23 = .ok (.ldc2_w 306, 3) := by decide +kernel
theorem dX10_dry_26 : decode cX10_dry 26 = .ok (.lstore_n 3, 1) := by decide +kernel
theorem dX10_dry_27 : decode cX10_dry 27 = .ok (.iconst 0, 1) := by decide +kernel
theorem dX10_dry_28 : decode cX10_dry 28 = .ok (.istore 5, 2) := by decide +kernel
theorem dX10_dry_30 : decode cX10_dry 30 = .ok (.iload 5, 2) := by decide +kernel
theorem dX10_dry_32 : decode cX10_dry 32 = .ok (.iload_n 1, 1) := by decide +kernel
theorem dX10_dry_33 : decode cX10_dry 33 = .ok (.if_icmp .ge 18, 3) := by decide +kernel
theorem dX10_dry_36 : decode cX10_dry 36 = .ok (.lload_n 3, 1) := by decide +kernel
theorem dX10_dry_37 : decode cX10_dry 37 = .ok (.iload_n 2, 1) := by decide +kernel
theorem dX10_dry_38 : decode cX10_dry 38 = .ok (.i2l, 1) := by decide +kernel
theorem dX10_dry_39 : decode cX10_dry 39 = .ok (.lmul, 1) := by decide +kernel
theorem dX10_dry_40 : decode cX10_dry 40 = .ok (.ldc2_w 308, 3) := by decide +kernel
theorem dX10_dry_43 : decode cX10_dry 43 = .ok (.ldiv, 1) := by decide +kernel
theorem dX10_dry_44 : decode cX10_dry 44 = .ok (.lstore_n 3, 1) := by decide +kernel
theorem dX10_dry_45 : decode cX10_dry 45 = .ok (.iinc 5 1, 3) := by decide +kernel
theorem dX10_dry_48 : decode cX10_dry 48 = .ok (.goto (-18), 3) := by decide +kernel
theorem dX10_dry_51 : decode cX10_dry 51 = .ok (.lload_n 3, 1) := by decide +kernel
theorem dX10_dry_52 : decode cX10_dry 52 = .ok (.l2i, 1) := by decide +kernel
theorem dX10_dry_53 : decode cX10_dry 53 = .ok (.ireturn, 1) := by decide +kernel
theorem dX10_pay_0 : decode cX10_pay 0 = .ok (.aload_n 0, 1) := by decide +kernel
theorem dX10_pay_1 : decode cX10_pay 1 = .ok (.getfield 28, 3) := by decide +kernel
theorem dX10_pay_4 : decode cX10_pay 4 = .ok (.iload_n 1, 1) := by decide +kernel
theorem dX10_pay_5 : decode cX10_pay 5 = .ok (.invokevirtual 197, 3) := by decide +kernel
theorem dX10_pay_8 : decode cX10_pay 8 = .ok (.ifCond .ne 6, 3) := by decide +kernel
theorem dX10_pay_11 : decode cX10_pay 11 = .ok (.ldc 176, 2) := by decide +kernel
theorem dX10_pay_13 : decode cX10_pay 13 = .ok (.ireturn, 1) := by decide +kernel
theorem dX10_pay_14 : decode cX10_pay 14 = .ok (.iload_n 2, 1) := by decide +kernel
theorem dX10_pay_15 : decode cX10_pay 15 = .ok (.ifCond .lt 10, 3) := by decide +kernel
theorem dX10_pay_18 : decode cX10_pay 18 = .ok (.iload_n 2, 1) := by decide +kernel
theorem dX10_pay_19 : decode cX10_pay 19 = .ok (.sipush 9999, 3) := by decide +kernel
theorem dX10_pay_22 : decode cX10_pay 22 = .ok (.if_icmp .le 6, 3) := by decide +kernel
theorem dX10_pay_25 : decode cX10_pay 25 = .ok (.ldc 87, 2) := by decide +kernel
theorem dX10_pay_27 : decode cX10_pay 27 = .ok (.ireturn, 1) := by decide +kernel
theorem dX10_pay_28 : decode cX10_pay 28 = .ok (.aload_n 0, 1) := by decide +kernel
theorem dX10_pay_29 : decode cX10_pay 29 = .ok (.getfield 55, 3) := by decide +kernel
theorem dX10_pay_32 : decode cX10_pay 32 = .ok (.iload_n 1, 1) := by decide +kernel
theorem dX10_pay_33 : decode cX10_pay 33 = .ok (.iload_n 2, 1) := by decide +kernel
theorem dX10_pay_34 : decode cX10_pay 34 = .ok (.invokevirtual 310, 3) := by decide +kernel
theorem dX10_pay_37 : decode cX10_pay 37 = .ok (.ifCond .eq 13, 3) := by decide +kernel
theorem dX10_pay_40 : decode cX10_pay 40 = .ok (.aload_n 0, 1) := by decide +kernel
theorem dX10_pay_41 : decode cX10_pay 41 = .ok (.getfield 55, 3) := by decide +kernel
theorem dX10_pay_44 : decode cX10_pay 44 = .ok (.getfield 160, 3) := by decide +kernel
theorem dX10_pay_47 : decode cX10_pay 47 = .ok (.goto 5, 3) := by decide +kernel
theorem dX10_pay_50 : decode cX10_pay 50 = .ok (.ldc 96, 2) := by decide +kernel
theorem dX10_pay_52 : decode cX10_pay 52 = .ok (.ireturn, 1) := by decide +kernel
theorem dX10_write_0 : decode cX10_write 0 = .ok (.aload_n 0, 1) := by decide +kernel
theorem dX10_write_1 : decode cX10_write 1 = .ok (.getfield 28, 3) := by decide +kernel
theorem dX10_write_4 : decode cX10_write 4 = .ok (.iload_n 1, 1) := by decide +kernel
theorem dX10_write_5 : decode cX10_write 5 = .ok (.invokevirtual 173, 3) := by decide +kernel
theorem dX10_write_8 : decode cX10_write 8 = .ok (.ifCond .ne 6, 3) := by decide +kernel
theorem dX10_write_11 : decode cX10_write 11 = .ok (.ldc 176, 2) := by decide +kernel
theorem dX10_write_13 : decode cX10_write 13 = .ok (.ireturn, 1) := by decide +kernel
theorem dX10_write_14 : decode cX10_write 14 = .ok (.iload_n 2, 1) := by decide +kernel
theorem dX10_write_15 : decode cX10_write 15 = .ok (.ifCond .lt 10, 3) := by decide +kernel
theorem dX10_write_18 : decode cX10_write 18 = .ok (.iload_n 2, 1) := by decide +kernel
theorem dX10_write_19 : decode cX10_write 19 = .ok (.sipush 9999, 3) := by decide +kernel
theorem dX10_write_22 : decode cX10_write 22 = .ok (.if_icmp .le 6, 3) := by decide +kernel
theorem dX10_write_25 : decode cX10_write 25 = .ok (.ldc 87, 2) := by decide +kernel
theorem dX10_write_27 : decode cX10_write 27 = .ok (.ireturn, 1) := by decide +kernel
theorem dX10_write_28 : decode cX10_write 28 = .ok (.aload_n 0, 1) := by decide +kernel
theorem dX10_write_29 : decode cX10_write 29 = .ok (.getfield 55, 3) := by decide +kernel
theorem dX10_write_32 : decode cX10_write 32 = .ok (.iload_n 1, 1) := by decide +kernel
theorem dX10_write_33 : decode cX10_write 33 = .ok (.iload_n 2, 1) := by decide +kernel
theorem dX10_write_34 : decode cX10_write 34 = .ok (.invokevirtual 314, 3) := by decide +kernel
theorem dX10_write_37 : decode cX10_write 37 = .ok (.ifCond .eq 13, 3) := by decide +kernel
theorem dX10_write_40 : decode cX10_write 40 = .ok (.aload_n 0, 1) := by decide +kernel
theorem dX10_write_41 : decode cX10_write 41 = .ok (.getfield 55, 3) := by decide +kernel
theorem dX10_write_44 : decode cX10_write 44 = .ok (.getfield 167, 3) := by decide +kernel
theorem dX10_write_47 : decode cX10_write 47 = .ok (.goto 5, 3) := by decide +kernel
theorem dX10_write_50 : decode cX10_write 50 = .ok (.ldc 96, 2) := by decide +kernel
theorem dX10_write_52 : decode cX10_write 52 = .ok (.ireturn, 1) := by decide +kernel
theorem dX10_tear_0 : decode cX10_tear 0 = .ok (.aload_n 0, 1) := by decide +kernel
theorem dX10_tear_1 : decode cX10_tear 1 = .ok (.getfield 55, 3) := by decide +kernel
theorem dX10_tear_4 : decode cX10_tear 4 = .ok (.getfield 160, 3) := by decide +kernel
theorem dX10_tear_7 : decode cX10_tear 7 = .ok (.aload_n 0, 1) := by decide +kernel
theorem dX10_tear_8 : decode cX10_tear 8 = .ok (.getfield 55, 3) := by decide +kernel
theorem dX10_tear_11 : decode cX10_tear 11 = .ok (.getfield 167, 3) := by decide +kernel
theorem dX10_tear_14 : decode cX10_tear 14 = .ok (.iadd, 1) := by decide +kernel
theorem dX10_tear_15 : decode cX10_tear 15 = .ok (.istore_n 1, 1) := by decide +kernel
theorem dX10_tear_16 : decode cX10_tear 16 = .ok (.aload_n 0, 1) := by decide +kernel
theorem dX10_tear_17 : decode cX10_tear 17 = .ok (.getfield 55, 3) := by decide +kernel
theorem dX10_tear_20 : decode cX10_tear 20 = .ok (.invokevirtual 107, 3) := by decide +kernel
theorem dX10_tear_23 : decode cX10_tear 23 = .ok (.iload_n 1, 1) := by decide +kernel
theorem dX10_tear_24 : decode cX10_tear 24 = .ok (.ireturn, 1) := by decide +kernel
theorem dX10_judge_0 : decode cX10_judge 0 = .ok (.aload_n 0, 1) := by decide +kernel
theorem dX10_judge_1 : decode cX10_judge 1 = .ok (.getfield 55, 3) := by decide +kernel
theorem dX10_judge_4 : decode cX10_judge 4 = .ok (.aload_n 0, 1) := by decide +kernel
theorem dX10_judge_5 : decode cX10_judge 5 = .ok (.getfield 34, 3) := by decide +kernel
theorem dX10_judge_8 : decode cX10_judge 8 = .ok (.invokevirtual 317, 3) := by decide +kernel
theorem dX10_judge_11 : decode cX10_judge 11 = .ok (.ireturn, 1) := by decide +kernel
theorem dX10_seed_0 : decode cX10_seed 0 = .ok (.iload_n 1, 1) := by decide +kernel
theorem dX10_seed_1 : decode cX10_seed 1 = .ok (.ifCond .ge 6, 3) := by decide +kernel
theorem dX10_seed_4 : decode cX10_seed 4 = .ok (.ldc 87, 2) := by decide +kernel
theorem dX10_seed_6 : decode cX10_seed 6 = .ok (.ireturn, 1) := by decide +kernel
theorem dX10_seed_7 : decode cX10_seed 7 = .ok (.aload_n 0, 1) := by decide +kernel
theorem dX10_seed_8 : decode cX10_seed 8 = .ok (.getfield 83, 3) := by decide +kernel
theorem dX10_seed_11 : decode cX10_seed 11 = .ok (.getfield 321, 3) := by decide +kernel
theorem dX10_seed_14 : decode cX10_seed 14 = .ok (.istore_n 2, 1) := by decide +kernel
theorem dX10_seed_15 : decode cX10_seed 15 = .ok (.aload_n 0, 1) := by decide +kernel
theorem dX10_seed_16 : decode cX10_seed 16 = .ok (.getfield 83, 3) := by decide +kernel
theorem dX10_seed_19 : decode cX10_seed 19 = .ok (.iload_n 1, 1) := by decide +kernel
theorem dX10_seed_20 : decode cX10_seed 20 = .ok (.putfield 321, 3) := by decide +kernel
theorem dX10_seed_23 : decode cX10_seed 23 = .ok (.iload_n 2, 1) := by decide +kernel
theorem dX10_seed_24 : decode cX10_seed 24 = .ok (.ireturn, 1) := by decide +kernel
theorem dX10_keep_0 : decode cX10_keep 0 = .ok (.iload_n 1, 1) := by decide +kernel
theorem dX10_keep_1 : decode cX10_keep 1 = .ok (.ifCond .lt 8, 3) := by decide +kernel
theorem dX10_keep_4 : decode cX10_keep 4 = .ok (.iload_n 1, 1) := by decide +kernel
theorem dX10_keep_5 : decode cX10_keep 5 = .ok (.iconst 2, 1) := by decide +kernel
theorem dX10_keep_6 : decode cX10_keep 6 = .ok (.if_icmp .lt 6, 3) := by decide +kernel
theorem dX10_keep_9 : decode cX10_keep 9 = .ok (.ldc 176, 2) := by decide +kernel
theorem dX10_keep_11 : decode cX10_keep 11 = .ok (.ireturn, 1) := by decide +kernel
theorem dX10_keep_12 : decode cX10_keep 12 = .ok (.aload_n 0, 1) := by decide +kernel
theorem dX10_keep_13 : decode cX10_keep 13 = .ok (.getfield 48, 3) := by decide +kernel
theorem dX10_keep_16 : decode cX10_keep 16 = .ok (.iload_n 1, 1) := by decide +kernel
theorem dX10_keep_17 : decode cX10_keep 17 = .ok (.aaload, 1) := by decide +kernel
theorem dX10_keep_18 : decode cX10_keep 18 = .ok (.getfield 324, 3) := by decide +kernel
theorem dX10_keep_21 : decode cX10_keep 21 = .ok (.aload_n 0, 1) := by decide +kernel
theorem dX10_keep_22 : decode cX10_keep 22 = .ok (.getfield 34, 3) := by decide +kernel
theorem dX10_keep_25 : decode cX10_keep 25 = .ok (.invokevirtual 257, 3) := by decide +kernel
theorem dX10_keep_28 : decode cX10_keep 28 = .ok (.aload_n 0, 1) := by decide +kernel
theorem dX10_keep_29 : decode cX10_keep 29 = .ok (.getfield 48, 3) := by decide +kernel
theorem dX10_keep_32 : decode cX10_keep 32 = .ok (.iload_n 1, 1) := by decide +kernel
theorem dX10_keep_33 : decode cX10_keep 33 = .ok (.aaload, 1) := by decide +kernel
theorem dX10_keep_34 : decode cX10_keep 34 = .ok (.aload_n 0, 1) := by decide +kernel
theorem dX10_keep_35 : decode cX10_keep 35 = .ok (.getfield 83, 3) := by decide +kernel
theorem dX10_keep_38 : decode cX10_keep 38 = .ok (.getfield 321, 3) := by decide +kernel
theorem dX10_keep_41 : decode cX10_keep 41 = .ok (.putfield 327, 3) := by decide +kernel
theorem dX10_keep_44 : decode cX10_keep 44 = .ok (.aload_n 0, 1) := by decide +kernel
theorem dX10_keep_45 : decode cX10_keep 45 = .ok (.getfield 48, 3) := by decide +kernel
theorem dX10_keep_48 : decode cX10_keep 48 = .ok (.iload_n 1, 1) := by decide +kernel
theorem dX10_keep_49 : decode cX10_keep 49 = .ok (.aaload, 1) := by decide +kernel
theorem dX10_keep_50 : decode cX10_keep 50 = .ok (.iconst 1, 1) := by decide +kernel
theorem dX10_keep_51 : decode cX10_keep 51 = .ok (.putfield 113, 3) := by decide +kernel
theorem dX10_keep_54 : decode cX10_keep 54 = .ok (.aload_n 0, 1) := by decide +kernel
theorem dX10_keep_55 : decode cX10_keep 55 = .ok (.getfield 44, 3) := by decide +kernel
theorem dX10_keep_58 : decode cX10_keep 58 = .ok (.invokevirtual 110, 3) := by decide +kernel
theorem dX10_keep_61 : decode cX10_keep 61 = .ok (.iconst 1, 1) := by decide +kernel
theorem dX10_keep_62 : decode cX10_keep 62 = .ok (.ireturn, 1) := by decide +kernel
theorem dX10_goBack_0 : decode cX10_goBack 0 = .ok (.iload_n 1, 1) := by decide +kernel
theorem dX10_goBack_1 : decode cX10_goBack 1 = .ok (.ifCond .lt 8, 3) := by decide +kernel
theorem dX10_goBack_4 : decode cX10_goBack 4 = .ok (.iload_n 1, 1) := by decide +kernel
theorem dX10_goBack_5 : decode cX10_goBack 5 = .ok (.iconst 2, 1) := by decide +kernel
theorem dX10_goBack_6 : decode cX10_goBack 6 = .ok (.if_icmp .lt 6, 3) := by decide +kernel
theorem dX10_goBack_9 : decode cX10_goBack 9 = .ok (.ldc 176, 2) := by decide +kernel
theorem dX10_goBack_11 : decode cX10_goBack 11 = .ok (.ireturn, 1) := by decide +kernel
theorem dX10_goBack_12 : decode cX10_goBack 12 = .ok (.aload_n 0, 1) := by decide +kernel
theorem dX10_goBack_13 : decode cX10_goBack 13 = .ok (.getfield 48, 3) := by decide +kernel
theorem dX10_goBack_16 : decode cX10_goBack 16 = .ok (.iload_n 1, 1) := by decide +kernel
theorem dX10_goBack_17 : decode cX10_goBack 17 = .ok (.aaload, 1) := by decide +kernel
theorem dX10_goBack_18 : decode cX10_goBack 18 = .ok (.getfield 113, 3) := by decide +kernel
theorem dX10_goBack_21 : decode cX10_goBack 21 = .ok (.ifCond .ne 6, 3) := by decide +kernel
theorem dX10_goBack_24 : decode cX10_goBack 24 = .ok (.ldc 222, 2) := by decide +kernel
theorem dX10_goBack_26 : decode cX10_goBack 26 = .ok (.ireturn, 1) := by decide +kernel
theorem dX10_goBack_27 : decode cX10_goBack 27 = .ok (.aload_n 0, 1) := by decide +kernel
theorem dX10_goBack_28 : decode cX10_goBack 28 = .ok (.getfield 34, 3) := by decide +kernel
theorem dX10_goBack_31 : decode cX10_goBack 31 = .ok (.aload_n 0, 1) := by decide +kernel
theorem dX10_goBack_32 : decode cX10_goBack 32 = .ok (.getfield 48, 3) := by decide +kernel
theorem dX10_goBack_35 : decode cX10_goBack 35 = .ok (.iload_n 1, 1) := by decide +kernel
theorem dX10_goBack_36 : decode cX10_goBack 36 = .ok (.aaload, 1) := by decide +kernel
theorem dX10_goBack_37 : decode cX10_goBack 37 = .ok (.getfield 324, 3) := by decide +kernel
theorem dX10_goBack_40 : decode cX10_goBack 40 = .ok (.invokevirtual 257, 3) := by decide +kernel
theorem dX10_goBack_43 : decode cX10_goBack 43 = .ok (.aload_n 0, 1) := by decide +kernel
theorem dX10_goBack_44 : decode cX10_goBack 44 = .ok (.getfield 83, 3) := by decide +kernel
theorem dX10_goBack_47 : decode cX10_goBack 47 = .ok (.aload_n 0, 1) := by decide +kernel
theorem dX10_goBack_48 : decode cX10_goBack 48 = .ok (.getfield 48, 3) := by decide +kernel
theorem dX10_goBack_51 : decode cX10_goBack 51 = .ok (.iload_n 1, 1) := by decide +kernel
theorem dX10_goBack_52 : decode cX10_goBack 52 = .ok (.aaload, 1) := by decide +kernel
theorem dX10_goBack_53 : decode cX10_goBack 53 = .ok (.getfield 327, 3) := by decide +kernel
theorem dX10_goBack_56 : decode cX10_goBack 56 = .ok (.putfield 321, 3) := by decide +kernel
theorem dX10_goBack_59 : decode cX10_goBack 59 = .ok (.aload_n 0, 1) := by decide +kernel
theorem dX10_goBack_60 : decode cX10_goBack 60 = .ok (.getfield 44, 3) := by decide +kernel
theorem dX10_goBack_63 : decode cX10_goBack 63 = .ok (.invokevirtual 110, 3) := by decide +kernel
theorem dX10_goBack_66 : decode cX10_goBack 66 = .ok (.iconst 1, 1) := by decide +kernel
theorem dX10_goBack_67 : decode cX10_goBack 67 = .ok (.ireturn, 1) := by decide +kernel
theorem dX10_isIn_0 : decode cX10_isIn 0 = .ok (.iload_n 1, 1) := by decide +kernel
theorem dX10_isIn_1 : decode cX10_isIn 1 = .ok (.iload_n 0, 1) := by decide +kernel
theorem dX10_isIn_2 : decode cX10_isIn 2 = .ok (.ishr, 1) := by decide +kernel
theorem dX10_isIn_3 : decode cX10_isIn 3 = .ok (.iconst 1, 1) := by decide +kernel
theorem dX10_isIn_4 : decode cX10_isIn 4 = .ok (.iand, 1) := by decide +kernel
theorem dX10_isIn_5 : decode cX10_isIn 5 = .ok (.iconst 1, 1) := by decide +kernel
theorem dX10_isIn_6 : decode cX10_isIn 6 = .ok (.if_icmp .ne 7, 3) := by decide +kernel
theorem dX10_isIn_9 : decode cX10_isIn 9 = .ok (.iconst 1, 1) := by decide +kernel
theorem dX10_isIn_10 : decode cX10_isIn 10 = .ok (.goto 4, 3) := by decide +kernel
theorem dX10_isIn_13 : decode cX10_isIn 13 = .ok (.iconst 0, 1) := by decide +kernel
theorem dX10_isIn_14 : decode cX10_isIn 14 = .ok (.ireturn, 1) := by decide +kernel
theorem dX10_refusalOfVerses_0 : decode cX10_refusalOfVerses 0 = .ok (.iload_n 1, 1) := by decide +kernel
theorem dX10_refusalOfVerses_1 : decode cX10_refusalOfVerses 1 = .ok (.iconst 1, 1) := by decide +kernel
theorem dX10_refusalOfVerses_2 : decode cX10_refusalOfVerses 2 = .ok (.if_icmp .lt 9, 3) := by decide +kernel
theorem dX10_refusalOfVerses_5 : decode cX10_refusalOfVerses 5 = .ok (.iload_n 1, 1) := by decide +kernel
theorem dX10_refusalOfVerses_6 : decode cX10_refusalOfVerses 6 = .ok (.bipush 60, 2) := by decide +kernel
theorem dX10_refusalOfVerses_8 : decode cX10_refusalOfVerses 8 = .ok (.if_icmp .le 6, 3) := by decide +kernel
theorem dX10_refusalOfVerses_11 : decode cX10_refusalOfVerses 11 = .ok (.ldc 87, 2) := by decide +kernel
theorem dX10_refusalOfVerses_13 : decode cX10_refusalOfVerses 13 = .ok (.ireturn, 1) := by decide +kernel
theorem dX10_refusalOfVerses_14 : decode cX10_refusalOfVerses 14 = .ok (.aload_n 0, 1) := by decide +kernel
theorem dX10_refusalOfVerses_15 : decode cX10_refusalOfVerses 15 = .ok (.getfield 28, 3) := by decide +kernel
theorem dX10_refusalOfVerses_18 : decode cX10_refusalOfVerses 18 = .ok (.invokevirtual 240, 3) := by decide +kernel
theorem dX10_refusalOfVerses_21 : decode cX10_refusalOfVerses 21 = .ok (.ifCond .eq 6, 3) := by decide +kernel
theorem dX10_refusalOfVerses_24 : decode cX10_refusalOfVerses 24 = .ok (.ldc 222, 2) := by decide +kernel
theorem dX10_refusalOfVerses_26 : decode cX10_refusalOfVerses 26 = .ok (.ireturn, 1) := by decide +kernel
theorem dX10_refusalOfVerses_27 : decode cX10_refusalOfVerses 27 = .ok (.aload_n 0, 1) := by decide +kernel
theorem dX10_refusalOfVerses_28 : decode cX10_refusalOfVerses 28 = .ok (.getfield 34, 3) := by decide +kernel
theorem dX10_refusalOfVerses_31 : decode cX10_refusalOfVerses 31 = .ok (.getfield 135, 3) := by decide +kernel
theorem dX10_refusalOfVerses_34 : decode cX10_refusalOfVerses 34 = .ok (.sipush 9000, 3) := by decide +kernel
theorem dX10_refusalOfVerses_37 : decode cX10_refusalOfVerses 37 = .ok (.if_icmp .le 8, 3) := by decide +kernel
theorem dX10_refusalOfVerses_40 : decode cX10_refusalOfVerses 40 = .ok (.ldc 96, 2) := by decide +kernel
theorem dX10_refusalOfVerses_42 : decode cX10_refusalOfVerses 42 = .ok (.goto 4, 3) := by decide +kernel
theorem dX10_refusalOfVerses_45 : decode cX10_refusalOfVerses 45 = .ok (.iconst 0, 1) := by decide +kernel
theorem dX10_refusalOfVerses_46 : decode cX10_refusalOfVerses 46 = .ok (.ireturn, 1) := by decide +kernel
theorem dX10_toldOfChoirs_0 : decode cX10_toldOfChoirs 0 = .ok (.aload_n 0, 1) := by decide +kernel
theorem dX10_toldOfChoirs_1 : decode cX10_toldOfChoirs 1 = .ok (.getfield 62, 3) := by decide +kernel
theorem dX10_toldOfChoirs_4 : decode cX10_toldOfChoirs 4 = .ok (.aload_n 0, 1) := by decide +kernel
theorem dX10_toldOfChoirs_5 : decode cX10_toldOfChoirs 5 = .ok (.getfield 28, 3) := by decide +kernel
theorem dX10_toldOfChoirs_8 : decode cX10_toldOfChoirs 8 = .ok (.aload_n 0, 1) := by decide +kernel
theorem dX10_toldOfChoirs_9 : decode cX10_toldOfChoirs 9 = .ok (.getfield 34, 3) := by decide +kernel
theorem dX10_toldOfChoirs_12 : decode cX10_toldOfChoirs 12 = .ok (.aload_n 0, 1) := by decide +kernel
theorem dX10_toldOfChoirs_13 : decode cX10_toldOfChoirs 13 = .ok (.getfield 55, 3) := by decide +kernel
theorem dX10_toldOfChoirs_16 : decode cX10_toldOfChoirs 16 = .ok (.invokevirtual 328, 3) := by decide +kernel
theorem dX10_toldOfChoirs_19 : decode cX10_toldOfChoirs 19 = .ok (.iload_n 1, 1) := by decide +kernel
theorem dX10_toldOfChoirs_20 : decode cX10_toldOfChoirs 20 = .ok (.bipush 15, 2) := by decide +kernel
theorem dX10_toldOfChoirs_22 : decode cX10_toldOfChoirs 22 = .ok (.if_icmp .ne 11, 3) := by decide +kernel
theorem dX10_toldOfChoirs_25 : decode cX10_toldOfChoirs 25 = .ok (.aload_n 0, 1) := by decide +kernel
theorem dX10_toldOfChoirs_26 : decode cX10_toldOfChoirs 26 = .ok (.getfield 62, 3) := by decide +kernel
theorem dX10_toldOfChoirs_29 : decode cX10_toldOfChoirs 29 = .ok (.getfield 332, 3) := by decide +kernel
theorem dX10_toldOfChoirs_32 : decode cX10_toldOfChoirs 32 = .ok (.ireturn, 1) := by decide +kernel
theorem dX10_toldOfChoirs_33 : decode cX10_toldOfChoirs 33 = .ok (.iload_n 1, 1) := by decide +kernel
theorem dX10_toldOfChoirs_34 : decode cX10_toldOfChoirs 34 = .ok (.bipush 16, 2) := by decide +kernel
theorem dX10_toldOfChoirs_36 : decode cX10_toldOfChoirs 36 = .ok (.if_icmp .ne 13, 3) := by decide +kernel
theorem dX10_toldOfChoirs_39 : decode cX10_toldOfChoirs 39 = .ok (.aload_n 0, 1) := by decide +kernel
theorem dX10_toldOfChoirs_40 : decode cX10_toldOfChoirs 40 = .ok (.getfield 62, 3) := by decide +kernel
theorem dX10_toldOfChoirs_43 : decode cX10_toldOfChoirs 43 = .ok (.getfield 333, 3) := by decide +kernel
theorem dX10_toldOfChoirs_46 : decode cX10_toldOfChoirs 46 = .ok (.goto 14, 3) := by decide +kernel
theorem dX10_toldOfChoirs_49 : decode cX10_toldOfChoirs 49 = .ok (.aload_n 0, 1) := by decide +kernel
theorem dX10_toldOfChoirs_50 : decode cX10_toldOfChoirs 50 = .ok (.getfield 62, 3) := by decide +kernel
theorem dX10_toldOfChoirs_53 : decode cX10_toldOfChoirs 53 = .ok (.aload_n 0, 1) := by decide +kernel
theorem dX10_toldOfChoirs_54 : decode cX10_toldOfChoirs 54 = .ok (.getfield 28, 3) := by decide +kernel
theorem dX10_toldOfChoirs_57 : decode cX10_toldOfChoirs 57 = .ok (.invokevirtual 336, 3) := by decide +kernel
theorem dX10_toldOfChoirs_60 : decode cX10_toldOfChoirs 60 = .ok (.ireturn, 1) := by decide +kernel
theorem dX10_fewest_0 : decode cX10_fewest 0 = .ok (.aload_n 0, 1) := by decide +kernel
theorem dX10_fewest_1 : decode cX10_fewest 1 = .ok (.getfield 28, 3) := by decide +kernel
theorem dX10_fewest_4 : decode cX10_fewest 4 = .ok (.invokevirtual 240, 3) := by decide +kernel
theorem dX10_fewest_7 : decode cX10_fewest 7 = .ok (.ifCond .eq 5, 3) := by decide +kernel
theorem dX10_fewest_10 : decode cX10_fewest 10 = .ok (.iconst (-1), 1) := by decide +kernel
theorem dX10_fewest_11 : decode cX10_fewest 11 = .ok (.ireturn, 1) := by decide +kernel
theorem dX10_fewest_12 : decode cX10_fewest 12 = .ok (.iconst (-1), 1) := by decide +kernel
theorem dX10_fewest_13 : decode cX10_fewest 13 = .ok (.istore_n 1, 1) := by decide +kernel
theorem dX10_fewest_14 : decode cX10_fewest 14 = .ok (.bipush 8, 2) := by decide +kernel
theorem dX10_fewest_16 : decode cX10_fewest 16 = .ok (.istore_n 2, 1) := by decide +kernel
theorem dX10_fewest_17 : decode cX10_fewest 17 = .ok (.iconst 0, 1) := by decide +kernel
theorem dX10_fewest_18 : decode cX10_fewest 18 = .ok (.istore_n 3, 1) := by decide +kernel
theorem dX10_fewest_19 : decode cX10_fewest 19 = .ok (.iload_n 3, 1) := by decide +kernel
theorem dX10_fewest_20 : decode cX10_fewest 20 = .ok (.aload_n 0, 1) := by decide +kernel
theorem dX10_fewest_21 : decode cX10_fewest 21 = .ok (.getfield 28, 3) := by decide +kernel
theorem dX10_fewest_24 : decode cX10_fewest 24 = .ok (.invokevirtual 339, 3) := by decide +kernel
theorem dX10_fewest_27 : decode cX10_fewest 27 = .ok (.if_icmp .gt 42, 3) := by decide +kernel
theorem dX10_fewest_30 : decode cX10_fewest 30 = .ok (.iload_n 3, 1) := by decide +kernel
theorem dX10_fewest_31 : decode cX10_fewest 31 = .ok (.invokestatic 269, 3) := by decide +kernel
theorem dX10_fewest_34 : decode cX10_fewest 34 = .ok (.iload_n 2, 1) := by decide +kernel
theorem dX10_fewest_35 : decode cX10_fewest 35 = .ok (.if_icmp .ge 28, 3) := by decide +kernel
theorem dX10_fewest_38 : decode cX10_fewest 38 = .ok (.aload_n 0, 1) := by decide +kernel
theorem dX10_fewest_39 : decode cX10_fewest 39 = .ok (.getfield 28, 3) := by decide +kernel
theorem dX10_fewest_42 : decode cX10_fewest 42 = .ok (.iload_n 3, 1) := by decide +kernel
theorem dX10_fewest_43 : decode cX10_fewest 43 = .ok (.invokevirtual 277, 3) := by decide +kernel
theorem dX10_fewest_46 : decode cX10_fewest 46 = .ok (.aload_n 0, 1) := by decide +kernel
theorem dX10_fewest_47 : decode cX10_fewest 47 = .ok (.getfield 28, 3) := by decide +kernel
theorem dX10_fewest_50 : decode cX10_fewest 50 = .ok (.invokevirtual 280, 3) := by decide +kernel
theorem dX10_fewest_53 : decode cX10_fewest 53 = .ok (.if_icmp .ne 10, 3) := by decide +kernel
theorem dX10_fewest_56 : decode cX10_fewest 56 = .ok (.iload_n 3, 1) := by decide +kernel
theorem dX10_fewest_57 : decode cX10_fewest 57 = .ok (.istore_n 1, 1) := by decide +kernel
theorem dX10_fewest_58 : decode cX10_fewest 58 = .ok (.iload_n 3, 1) := by decide +kernel
theorem dX10_fewest_59 : decode cX10_fewest 59 = .ok (.invokestatic 269, 3) := by decide +kernel
theorem dX10_fewest_62 : decode cX10_fewest 62 = .ok (.istore_n 2, 1) := by decide +kernel
theorem dX10_fewest_63 : decode cX10_fewest 63 = .ok (.iinc 3 1, 3) := by decide +kernel
theorem dX10_fewest_66 : decode cX10_fewest 66 = .ok (.goto (-47), 3) := by decide +kernel
theorem dX10_fewest_69 : decode cX10_fewest 69 = .ok (.iload_n 1, 1) := by decide +kernel
theorem dX10_fewest_70 : decode cX10_fewest 70 = .ok (.ireturn, 1) := by decide +kernel
theorem dX10_stirByDraws_0 : decode cX10_stirByDraws 0 = .ok (.aload_n 0, 1) := by decide +kernel
theorem dX10_stirByDraws_1 : decode cX10_stirByDraws 1 = .ok (.getfield 28, 3) := by decide +kernel
theorem dX10_stirByDraws_4 : decode cX10_stirByDraws 4 = .ok (.getfield 117, 3) := by decide +kernel
theorem dX10_stirByDraws_7 : decode cX10_stirByDraws 7 = .ok (.ifCond .ne 4, 3) := by decide +kernel
theorem dX10_stirByDraws_10 : decode cX10_stirByDraws 10 = .ok (.return_, 1) := by decide +kernel
theorem dX10_stirByDraws_11 : decode cX10_stirByDraws 11 = .ok (.aload_n 0, 1) := by decide +kernel
theorem dX10_stirByDraws_12 : decode cX10_stirByDraws 12 = .ok (.getfield 83, 3) := by decide +kernel
theorem dX10_stirByDraws_15 : decode cX10_stirByDraws 15 = .ok (.iconst 5, 1) := by decide +kernel
theorem dX10_stirByDraws_16 : decode cX10_stirByDraws 16 = .ok (.invokevirtual 342, 3) := by decide +kernel
theorem dX10_stirByDraws_19 : decode cX10_stirByDraws 19 = .ok (.istore_n 1, 1) := by decide +kernel
theorem dX10_stirByDraws_20 : decode cX10_stirByDraws 20 = .ok (.aload_n 0, 1) := by decide +kernel
theorem dX10_stirByDraws_21 : decode cX10_stirByDraws 21 = .ok (.getfield 83, 3) := by decide +kernel
theorem dX10_stirByDraws_24 : decode cX10_stirByDraws 24 = .ok (.aload_n 0, 1) := by decide +kernel
theorem dX10_stirByDraws_25 : decode cX10_stirByDraws 25 = .ok (.getfield 28, 3) := by decide +kernel
theorem dX10_stirByDraws_28 : decode cX10_stirByDraws 28 = .ok (.getfield 117, 3) := by decide +kernel
theorem dX10_stirByDraws_31 : decode cX10_stirByDraws 31 = .ok (.invokevirtual 342, 3) := by decide +kernel
theorem dX10_stirByDraws_34 : decode cX10_stirByDraws 34 = .ok (.istore_n 2, 1) := by decide +kernel
theorem dX10_stirByDraws_35 : decode cX10_stirByDraws 35 = .ok (.iload_n 1, 1) := by decide +kernel
theorem dX10_stirByDraws_36 : decode cX10_stirByDraws 36 = .ok (.tableswitch 99 0 3 #[32, 43, 54, 79], 32) := by decide +kernel
theorem dX10_stirByDraws_68 : decode cX10_stirByDraws 68 = .ok (.aload_n 0, 1) := by decide +kernel
theorem dX10_stirByDraws_69 : decode cX10_stirByDraws 69 = .ok (.getfield 34, 3) := by decide +kernel
theorem dX10_stirByDraws_72 : decode cX10_stirByDraws 72 = .ok (.iload_n 2, 1) := by decide +kernel
theorem dX10_stirByDraws_73 : decode cX10_stirByDraws 73 = .ok (.invokevirtual 223, 3) := by decide +kernel
theorem dX10_stirByDraws_76 : decode cX10_stirByDraws 76 = .ok (.goto 63, 3) := by decide +kernel
theorem dX10_stirByDraws_79 : decode cX10_stirByDraws 79 = .ok (.aload_n 0, 1) := by decide +kernel
theorem dX10_stirByDraws_80 : decode cX10_stirByDraws 80 = .ok (.getfield 34, 3) := by decide +kernel
theorem dX10_stirByDraws_83 : decode cX10_stirByDraws 83 = .ok (.iload_n 2, 1) := by decide +kernel
theorem dX10_stirByDraws_84 : decode cX10_stirByDraws 84 = .ok (.invokevirtual 227, 3) := by decide +kernel
theorem dX10_stirByDraws_87 : decode cX10_stirByDraws 87 = .ok (.goto 52, 3) := by decide +kernel
theorem dX10_stirByDraws_90 : decode cX10_stirByDraws 90 = .ok (.aload_n 0, 1) := by decide +kernel
theorem dX10_stirByDraws_91 : decode cX10_stirByDraws 91 = .ok (.getfield 34, 3) := by decide +kernel
theorem dX10_stirByDraws_94 : decode cX10_stirByDraws 94 = .ok (.iload_n 2, 1) := by decide +kernel
theorem dX10_stirByDraws_95 : decode cX10_stirByDraws 95 = .ok (.aload_n 0, 1) := by decide +kernel
theorem dX10_stirByDraws_96 : decode cX10_stirByDraws 96 = .ok (.getfield 83, 3) := by decide +kernel
theorem dX10_stirByDraws_99 : decode cX10_stirByDraws 99 = .ok (.aload_n 0, 1) := by decide +kernel
theorem dX10_stirByDraws_100 : decode cX10_stirByDraws 100 = .ok (.getfield 28, 3) := by decide +kernel
theorem dX10_stirByDraws_103 : decode cX10_stirByDraws 103 = .ok (.getfield 126, 3) := by decide +kernel
theorem dX10_stirByDraws_106 : decode cX10_stirByDraws 106 = .ok (.invokevirtual 342, 3) := by decide +kernel
theorem dX10_stirByDraws_109 : decode cX10_stirByDraws 109 = .ok (.invokevirtual 233, 3) := by decide +kernel
theorem dX10_stirByDraws_112 : decode cX10_stirByDraws 112 = .ok (.goto 27, 3) := by decide +kernel
theorem dX10_stirByDraws_115 : decode cX10_stirByDraws 115 = .ok (.aload_n 0, 1) := by decide +kernel
theorem dX10_stirByDraws_116 : decode cX10_stirByDraws 116 = .ok (.getfield 34, 3) := by decide +kernel
theorem dX10_stirByDraws_119 : decode cX10_stirByDraws 119 = .ok (.iload_n 2, 1) := by decide +kernel
theorem dX10_stirByDraws_120 : decode cX10_stirByDraws 120 = .ok (.aload_n 0, 1) := by decide +kernel
theorem dX10_stirByDraws_121 : decode cX10_stirByDraws 121 = .ok (.getfield 83, 3) := by decide +kernel
theorem dX10_stirByDraws_124 : decode cX10_stirByDraws 124 = .ok (.bipush 50, 2) := by decide +kernel
theorem dX10_stirByDraws_126 : decode cX10_stirByDraws 126 = .ok (.invokevirtual 342, 3) := by decide +kernel
theorem dX10_stirByDraws_129 : decode cX10_stirByDraws 129 = .ok (.invokevirtual 237, 3) := by decide +kernel
theorem dX10_stirByDraws_132 : decode cX10_stirByDraws 132 = .ok (.goto 7, 3) := by decide +kernel
theorem dX10_stirByDraws_135 : decode cX10_stirByDraws 135 = .ok (.aload_n 0, 1) := by decide +kernel
theorem dX10_stirByDraws_136 : decode cX10_stirByDraws 136 = .ok (.invokevirtual 345, 3) := by decide +kernel
theorem dX10_stirByDraws_139 : decode cX10_stirByDraws 139 = .ok (.return_, 1) := by decide +kernel
theorem dX10_sendByDraws_0 : decode cX10_sendByDraws 0 = .ok (.aload_n 0, 1) := by decide +kernel
theorem dX10_sendByDraws_1 : decode cX10_sendByDraws 1 = .ok (.getfield 28, 3) := by decide +kernel
theorem dX10_sendByDraws_4 : decode cX10_sendByDraws 4 = .ok (.getfield 132, 3) := by decide +kernel
theorem dX10_sendByDraws_7 : decode cX10_sendByDraws 7 = .ok (.ifCond .ne 4, 3) := by decide +kernel
theorem dX10_sendByDraws_10 : decode cX10_sendByDraws 10 = .ok (.return_, 1) := by decide +kernel
theorem dX10_sendByDraws_11 : decode cX10_sendByDraws 11 = .ok (.aload_n 0, 1) := by decide +kernel
theorem dX10_sendByDraws_12 : decode cX10_sendByDraws 12 = .ok (.getfield 83, 3) := by decide +kernel
theorem dX10_sendByDraws_15 : decode cX10_sendByDraws 15 = .ok (.aload_n 0, 1) := by decide +kernel
theorem dX10_sendByDraws_16 : decode cX10_sendByDraws 16 = .ok (.getfield 28, 3) := by decide +kernel
theorem dX10_sendByDraws_19 : decode cX10_sendByDraws 19 = .ok (.getfield 132, 3) := by decide +kernel
theorem dX10_sendByDraws_22 : decode cX10_sendByDraws 22 = .ok (.invokevirtual 342, 3) := by decide +kernel
theorem dX10_sendByDraws_25 : decode cX10_sendByDraws 25 = .ok (.istore_n 1, 1) := by decide +kernel
theorem dX10_sendByDraws_26 : decode cX10_sendByDraws 26 = .ok (.aload_n 0, 1) := by decide +kernel
theorem dX10_sendByDraws_27 : decode cX10_sendByDraws 27 = .ok (.getfield 83, 3) := by decide +kernel
theorem dX10_sendByDraws_30 : decode cX10_sendByDraws 30 = .ok (.aload_n 0, 1) := by decide +kernel
theorem dX10_sendByDraws_31 : decode cX10_sendByDraws 31 = .ok (.getfield 28, 3) := by decide +kernel
theorem dX10_sendByDraws_34 : decode cX10_sendByDraws 34 = .ok (.getfield 126, 3) := by decide +kernel
theorem dX10_sendByDraws_37 : decode cX10_sendByDraws 37 = .ok (.invokevirtual 342, 3) := by decide +kernel
theorem dX10_sendByDraws_40 : decode cX10_sendByDraws 40 = .ok (.istore_n 2, 1) := by decide +kernel
theorem dX10_sendByDraws_41 : decode cX10_sendByDraws 41 = .ok (.aload_n 0, 1) := by decide +kernel
theorem dX10_sendByDraws_42 : decode cX10_sendByDraws 42 = .ok (.getfield 28, 3) := by decide +kernel
theorem dX10_sendByDraws_45 : decode cX10_sendByDraws 45 = .ok (.iload_n 1, 1) := by decide +kernel
theorem dX10_sendByDraws_46 : decode cX10_sendByDraws 46 = .ok (.invokevirtual 244, 3) := by decide +kernel
theorem dX10_sendByDraws_49 : decode cX10_sendByDraws 49 = .ok (.ifCond .eq 13, 3) := by decide +kernel
theorem dX10_sendByDraws_52 : decode cX10_sendByDraws 52 = .ok (.aload_n 0, 1) := by decide +kernel
theorem dX10_sendByDraws_53 : decode cX10_sendByDraws 53 = .ok (.getfield 34, 3) := by decide +kernel
theorem dX10_sendByDraws_56 : decode cX10_sendByDraws 56 = .ok (.getfield 247, 3) := by decide +kernel
theorem dX10_sendByDraws_59 : decode cX10_sendByDraws 59 = .ok (.iload_n 1, 1) := by decide +kernel
theorem dX10_sendByDraws_60 : decode cX10_sendByDraws 60 = .ok (.iload_n 2, 1) := by decide +kernel
theorem dX10_sendByDraws_61 : decode cX10_sendByDraws 61 = .ok (.iastore, 1) := by decide +kernel
theorem dX10_sendByDraws_62 : decode cX10_sendByDraws 62 = .ok (.return_, 1) := by decide +kernel
