theorem dX11_pass_222 : decode cX11_pass 222 = .ok (.goto (-24), 3) := by decide +kernel
theorem dX11_pass_225 : decode cX11_pass 225 = .ok (.aload_n 0, 1) := by decide +kernel
theorem dX11_pass_226 : decode cX11_pass 226 = .ok (.getfield 25, 3) := by decide +kernel
theorem dX11_pass_229 : decode cX11_pass 229 = .ok (.bipush 28, 2) := by decide +kernel
theorem dX11_pass_231 : decode cX11_pass 231 = .ok (.dup2, 1) := by decide +kernel
theorem dX11_pass_232 : decode cX11_pass 232 = .ok (.iaload, 1) := by decide +kernel
theorem dX11_pass_233 : decode cX11_pass 233 = .ok (.iconst 1, 1) := by decide +kernel
theorem dX11_pass_234 : decode cX11_pass 234 = .ok (.iadd, 1) := by decide +kernel
theorem dX11_pass_235 : decode cX11_pass 235 = .ok (.iastore, 1) := by decide +kernel
theorem dX11_pass_236 : decode cX11_pass 236 = .ok (.return_, 1) := by decide +kernel
theorem dX11_versesRefused_0 : decode cX11_versesRefused 0 = .ok (.iload_n 1, 1) := by decide +kernel
theorem dX11_versesRefused_1 : decode cX11_versesRefused 1 = .ok (.i2l, 1) := by decide +kernel
theorem dX11_versesRefused_2 : decode cX11_versesRefused 2 = .ok (.lconst 1, 1) := by decide +kernel
theorem dX11_versesRefused_3 : decode cX11_versesRefused 3 = .ok (.ldc2_w 243, 3) := by decide +kernel
theorem dX11_versesRefused_6 : decode cX11_versesRefused 6 = .ok (.invokestatic 84, 3) := by decide +kernel
theorem dX11_versesRefused_9 : decode cX11_versesRefused 9 = .ok (.ifCond .ne 6, 3) := by decide +kernel
theorem dX11_versesRefused_12 : decode cX11_versesRefused 12 = .ok (.ldc 93, 2) := by decide +kernel
theorem dX11_versesRefused_14 : decode cX11_versesRefused 14 = .ok (.ireturn, 1) := by decide +kernel
theorem dX11_versesRefused_15 : decode cX11_versesRefused 15 = .ok (.aload_n 0, 1) := by decide +kernel
theorem dX11_versesRefused_16 : decode cX11_versesRefused 16 = .ok (.getfield 88, 3) := by decide +kernel
theorem dX11_versesRefused_19 : decode cX11_versesRefused 19 = .ok (.ifCond .ne 8, 3) := by decide +kernel
theorem dX11_versesRefused_22 : decode cX11_versesRefused 22 = .ok (.ldc 245, 2) := by decide +kernel
theorem dX11_versesRefused_24 : decode cX11_versesRefused 24 = .ok (.goto 22, 3) := by decide +kernel
theorem dX11_versesRefused_27 : decode cX11_versesRefused 27 = .ok (.aload_n 0, 1) := by decide +kernel
theorem dX11_versesRefused_28 : decode cX11_versesRefused 28 = .ok (.getfield 25, 3) := by decide +kernel
theorem dX11_versesRefused_31 : decode cX11_versesRefused 31 = .ok (.bipush 28, 2) := by decide +kernel
theorem dX11_versesRefused_33 : decode cX11_versesRefused 33 = .ok (.iaload, 1) := by decide +kernel
theorem dX11_versesRefused_34 : decode cX11_versesRefused 34 = .ok (.sipush 9000, 3) := by decide +kernel
theorem dX11_versesRefused_37 : decode cX11_versesRefused 37 = .ok (.if_icmp .le 8, 3) := by decide +kernel
theorem dX11_versesRefused_40 : decode cX11_versesRefused 40 = .ok (.ldc 97, 2) := by decide +kernel
theorem dX11_versesRefused_42 : decode cX11_versesRefused 42 = .ok (.goto 4, 3) := by decide +kernel
theorem dX11_versesRefused_45 : decode cX11_versesRefused 45 = .ok (.iconst 0, 1) := by decide +kernel
theorem dX11_versesRefused_46 : decode cX11_versesRefused 46 = .ok (.ireturn, 1) := by decide +kernel
theorem dX11_verse_0 : decode cX11_verse 0 = .ok (.aload_n 0, 1) := by decide +kernel
theorem dX11_verse_1 : decode cX11_verse 1 = .ok (.iload_n 1, 1) := by decide +kernel
theorem dX11_verse_2 : decode cX11_verse 2 = .ok (.invokevirtual 246, 3) := by decide +kernel
theorem dX11_verse_5 : decode cX11_verse 5 = .ok (.istore_n 2, 1) := by decide +kernel
theorem dX11_verse_6 : decode cX11_verse 6 = .ok (.iload_n 2, 1) := by decide +kernel
theorem dX11_verse_7 : decode cX11_verse 7 = .ok (.ifCond .eq 5, 3) := by decide +kernel
theorem dX11_verse_10 : decode cX11_verse 10 = .ok (.iload_n 2, 1) := by decide +kernel
theorem dX11_verse_11 : decode cX11_verse 11 = .ok (.ireturn, 1) := by decide +kernel
theorem dX11_verse_12 : decode cX11_verse 12 = .ok (.aload_n 0, 1) := by decide +kernel
theorem dX11_verse_13 : decode cX11_verse 13 = .ok (.invokevirtual 249, 3) := by decide +kernel
theorem dX11_verse_16 : decode cX11_verse 16 = .ok (.iconst 0, 1) := by decide +kernel
theorem dX11_verse_17 : decode cX11_verse 17 = .ok (.istore_n 3, 1) := by decide +kernel
theorem dX11_verse_18 : decode cX11_verse 18 = .ok (.iload_n 3, 1) := by decide +kernel
theorem dX11_verse_19 : decode cX11_verse 19 = .ok (.iload_n 1, 1) := by decide +kernel
theorem dX11_verse_20 : decode cX11_verse 20 = .ok (.if_icmp .ge 13, 3) := by decide +kernel
theorem dX11_verse_23 : decode cX11_verse 23 = .ok (.aload_n 0, 1) := by decide +kernel
theorem dX11_verse_24 : decode cX11_verse 24 = .ok (.invokevirtual 252, 3) := by decide +kernel
theorem dX11_verse_27 : decode cX11_verse 27 = .ok (.iinc 3 1, 3) := by decide +kernel
theorem dX11_verse_30 : decode cX11_verse 30 = .ok (.goto (-12), 3) := by decide +kernel
theorem dX11_verse_33 : decode cX11_verse 33 = .ok (.aload_n 0, 1) := by decide +kernel
theorem dX11_verse_34 : decode cX11_verse 34 = .ok (.getfield 25, 3) := by decide +kernel
theorem dX11_verse_37 : decode cX11_verse 37 = .ok (.bipush 26, 2) := by decide +kernel
theorem dX11_verse_39 : decode cX11_verse 39 = .ok (.iaload, 1) := by decide +kernel
theorem dX11_verse_40 : decode cX11_verse 40 = .ok (.ireturn, 1) := by decide +kernel
theorem dX11_joinNow_0 : decode cX11_joinNow 0 = .ok (.aload_n 0, 1) := by decide +kernel
theorem dX11_joinNow_1 : decode cX11_joinNow 1 = .ok (.getfield 25, 3) := by decide +kernel
theorem dX11_joinNow_4 : decode cX11_joinNow 4 = .ok (.bipush 14, 2) := by decide +kernel
theorem dX11_joinNow_6 : decode cX11_joinNow 6 = .ok (.iload_n 1, 1) := by decide +kernel
theorem dX11_joinNow_7 : decode cX11_joinNow 7 = .ok (.iadd, 1) := by decide +kernel
theorem dX11_joinNow_8 : decode cX11_joinNow 8 = .ok (.aload_n 0, 1) := by decide +kernel
theorem dX11_joinNow_9 : decode cX11_joinNow 9 = .ok (.aload_n 0, 1) := by decide +kernel
theorem dX11_joinNow_10 : decode cX11_joinNow 10 = .ok (.getfield 25, 3) := by decide +kernel
theorem dX11_joinNow_13 : decode cX11_joinNow 13 = .ok (.iload_n 1, 1) := by decide +kernel
theorem dX11_joinNow_14 : decode cX11_joinNow 14 = .ok (.iaload, 1) := by decide +kernel
theorem dX11_joinNow_15 : decode cX11_joinNow 15 = .ok (.invokevirtual 255, 3) := by decide +kernel
theorem dX11_joinNow_18 : decode cX11_joinNow 18 = .ok (.iastore, 1) := by decide +kernel
theorem dX11_joinNow_19 : decode cX11_joinNow 19 = .ok (.return_, 1) := by decide +kernel
theorem dX11_join_0 : decode cX11_join 0 = .ok (.aload_n 0, 1) := by decide +kernel
theorem dX11_join_1 : decode cX11_join 1 = .ok (.iload_n 1, 1) := by decide +kernel
theorem dX11_join_2 : decode cX11_join 2 = .ok (.invokevirtual 228, 3) := by decide +kernel
theorem dX11_join_5 : decode cX11_join 5 = .ok (.ifCond .ne 6, 3) := by decide +kernel
theorem dX11_join_8 : decode cX11_join 8 = .ok (.ldc 231, 2) := by decide +kernel
theorem dX11_join_10 : decode cX11_join 10 = .ok (.ireturn, 1) := by decide +kernel
theorem dX11_join_11 : decode cX11_join 11 = .ok (.aload_n 0, 1) := by decide +kernel
theorem dX11_join_12 : decode cX11_join 12 = .ok (.iload_n 1, 1) := by decide +kernel
theorem dX11_join_13 : decode cX11_join 13 = .ok (.invokevirtual 183, 3) := by decide +kernel
theorem dX11_join_16 : decode cX11_join 16 = .ok (.ifCond .eq 6, 3) := by decide +kernel
theorem dX11_join_19 : decode cX11_join 19 = .ok (.ldc 245, 2) := by decide +kernel
theorem dX11_join_21 : decode cX11_join 21 = .ok (.ireturn, 1) := by decide +kernel
theorem dX11_join_22 : decode cX11_join 22 = .ok (.aload_n 0, 1) := by decide +kernel
theorem dX11_join_23 : decode cX11_join 23 = .ok (.invokevirtual 249, 3) := by decide +kernel
theorem dX11_join_26 : decode cX11_join 26 = .ok (.aload_n 0, 1) := by decide +kernel
theorem dX11_join_27 : decode cX11_join 27 = .ok (.iload_n 1, 1) := by decide +kernel
theorem dX11_join_28 : decode cX11_join 28 = .ok (.invokevirtual 258, 3) := by decide +kernel
theorem dX11_join_31 : decode cX11_join 31 = .ok (.aload_n 0, 1) := by decide +kernel
theorem dX11_join_32 : decode cX11_join 32 = .ok (.getfield 25, 3) := by decide +kernel
theorem dX11_join_35 : decode cX11_join 35 = .ok (.bipush 14, 2) := by decide +kernel
theorem dX11_join_37 : decode cX11_join 37 = .ok (.iload_n 1, 1) := by decide +kernel
theorem dX11_join_38 : decode cX11_join 38 = .ok (.iadd, 1) := by decide +kernel
theorem dX11_join_39 : decode cX11_join 39 = .ok (.iaload, 1) := by decide +kernel
theorem dX11_join_40 : decode cX11_join 40 = .ok (.ireturn, 1) := by decide +kernel
theorem dX11_hush_0 : decode cX11_hush 0 = .ok (.aload_n 0, 1) := by decide +kernel
theorem dX11_hush_1 : decode cX11_hush 1 = .ok (.iload_n 1, 1) := by decide +kernel
theorem dX11_hush_2 : decode cX11_hush 2 = .ok (.invokevirtual 228, 3) := by decide +kernel
theorem dX11_hush_5 : decode cX11_hush 5 = .ok (.ifCond .ne 6, 3) := by decide +kernel
theorem dX11_hush_8 : decode cX11_hush 8 = .ok (.ldc 231, 2) := by decide +kernel
theorem dX11_hush_10 : decode cX11_hush 10 = .ok (.ireturn, 1) := by decide +kernel
theorem dX11_hush_11 : decode cX11_hush 11 = .ok (.aload_n 0, 1) := by decide +kernel
theorem dX11_hush_12 : decode cX11_hush 12 = .ok (.iload_n 1, 1) := by decide +kernel
theorem dX11_hush_13 : decode cX11_hush 13 = .ok (.invokevirtual 183, 3) := by decide +kernel
theorem dX11_hush_16 : decode cX11_hush 16 = .ok (.ifCond .ne 6, 3) := by decide +kernel
theorem dX11_hush_19 : decode cX11_hush 19 = .ok (.ldc 245, 2) := by decide +kernel
theorem dX11_hush_21 : decode cX11_hush 21 = .ok (.ireturn, 1) := by decide +kernel
theorem dX11_hush_22 : decode cX11_hush 22 = .ok (.aload_n 0, 1) := by decide +kernel
theorem dX11_hush_23 : decode cX11_hush 23 = .ok (.invokevirtual 249, 3) := by decide +kernel
theorem dX11_hush_26 : decode cX11_hush 26 = .ok (.aload_n 0, 1) := by decide +kernel
theorem dX11_hush_27 : decode cX11_hush 27 = .ok (.iload_n 1, 1) := by decide +kernel
theorem dX11_hush_28 : decode cX11_hush 28 = .ok (.invokevirtual 239, 3) := by decide +kernel
theorem dX11_hush_31 : decode cX11_hush 31 = .ok (.aload_n 0, 1) := by decide +kernel
theorem dX11_hush_32 : decode cX11_hush 32 = .ok (.aload_n 0, 1) := by decide +kernel
theorem dX11_hush_33 : decode cX11_hush 33 = .ok (.getfield 25, 3) := by decide +kernel
theorem dX11_hush_36 : decode cX11_hush 36 = .ok (.iload_n 1, 1) := by decide +kernel
theorem dX11_hush_37 : decode cX11_hush 37 = .ok (.iaload, 1) := by decide +kernel
theorem dX11_hush_38 : decode cX11_hush 38 = .ok (.invokevirtual 255, 3) := by decide +kernel
theorem dX11_hush_41 : decode cX11_hush 41 = .ok (.ireturn, 1) := by decide +kernel
theorem dX11_goNow_0 : decode cX11_goNow 0 = .ok (.aload_n 0, 1) := by decide +kernel
theorem dX11_goNow_1 : decode cX11_goNow 1 = .ok (.iload_n 1, 1) := by decide +kernel
theorem dX11_goNow_2 : decode cX11_goNow 2 = .ok (.invokevirtual 239, 3) := by decide +kernel
theorem dX11_goNow_5 : decode cX11_goNow 5 = .ok (.aload_n 0, 1) := by decide +kernel
theorem dX11_goNow_6 : decode cX11_goNow 6 = .ok (.getfield 25, 3) := by decide +kernel
theorem dX11_goNow_9 : decode cX11_goNow 9 = .ok (.iload_n 1, 1) := by decide +kernel
theorem dX11_goNow_10 : decode cX11_goNow 10 = .ok (.iload_n 2, 1) := by decide +kernel
theorem dX11_goNow_11 : decode cX11_goNow 11 = .ok (.iastore, 1) := by decide +kernel
theorem dX11_goNow_12 : decode cX11_goNow 12 = .ok (.return_, 1) := by decide +kernel
theorem dX11_go_0 : decode cX11_go 0 = .ok (.aload_n 0, 1) := by decide +kernel
theorem dX11_go_1 : decode cX11_go 1 = .ok (.iload_n 1, 1) := by decide +kernel
theorem dX11_go_2 : decode cX11_go 2 = .ok (.invokevirtual 228, 3) := by decide +kernel
theorem dX11_go_5 : decode cX11_go 5 = .ok (.ifCond .eq 11, 3) := by decide +kernel
theorem dX11_go_8 : decode cX11_go 8 = .ok (.aload_n 0, 1) := by decide +kernel
theorem dX11_go_9 : decode cX11_go 9 = .ok (.iload_n 2, 1) := by decide +kernel
theorem dX11_go_10 : decode cX11_go 10 = .ok (.invokevirtual 232, 3) := by decide +kernel
theorem dX11_go_13 : decode cX11_go 13 = .ok (.ifCond .ne 6, 3) := by decide +kernel
theorem dX11_go_16 : decode cX11_go 16 = .ok (.ldc 231, 2) := by decide +kernel
theorem dX11_go_18 : decode cX11_go 18 = .ok (.ireturn, 1) := by decide +kernel
theorem dX11_go_19 : decode cX11_go 19 = .ok (.aload_n 0, 1) := by decide +kernel
theorem dX11_go_20 : decode cX11_go 20 = .ok (.getfield 25, 3) := by decide +kernel
theorem dX11_go_23 : decode cX11_go 23 = .ok (.iload_n 1, 1) := by decide +kernel
theorem dX11_go_24 : decode cX11_go 24 = .ok (.iaload, 1) := by decide +kernel
theorem dX11_go_25 : decode cX11_go 25 = .ok (.iload_n 2, 1) := by decide +kernel
theorem dX11_go_26 : decode cX11_go 26 = .ok (.if_icmp .ne 6, 3) := by decide +kernel
theorem dX11_go_29 : decode cX11_go 29 = .ok (.ldc 245, 2) := by decide +kernel
theorem dX11_go_31 : decode cX11_go 31 = .ok (.ireturn, 1) := by decide +kernel
theorem dX11_go_32 : decode cX11_go 32 = .ok (.aload_n 0, 1) := by decide +kernel
theorem dX11_go_33 : decode cX11_go 33 = .ok (.invokevirtual 249, 3) := by decide +kernel
theorem dX11_go_36 : decode cX11_go 36 = .ok (.aload_n 0, 1) := by decide +kernel
theorem dX11_go_37 : decode cX11_go 37 = .ok (.getfield 25, 3) := by decide +kernel
theorem dX11_go_40 : decode cX11_go 40 = .ok (.iload_n 1, 1) := by decide +kernel
theorem dX11_go_41 : decode cX11_go 41 = .ok (.iaload, 1) := by decide +kernel
theorem dX11_go_42 : decode cX11_go 42 = .ok (.istore_n 3, 1) := by decide +kernel
theorem dX11_go_43 : decode cX11_go 43 = .ok (.aload_n 0, 1) := by decide +kernel
theorem dX11_go_44 : decode cX11_go 44 = .ok (.iload_n 1, 1) := by decide +kernel
theorem dX11_go_45 : decode cX11_go 45 = .ok (.iload_n 2, 1) := by decide +kernel
theorem dX11_go_46 : decode cX11_go 46 = .ok (.invokevirtual 261, 3) := by decide +kernel
theorem dX11_go_49 : decode cX11_go 49 = .ok (.iload_n 3, 1) := by decide +kernel
theorem dX11_go_50 : decode cX11_go 50 = .ok (.ireturn, 1) := by decide +kernel
theorem dX11_giveNow_0 : decode cX11_giveNow 0 = .ok (.aload_n 0, 1) := by decide +kernel
theorem dX11_giveNow_1 : decode cX11_giveNow 1 = .ok (.getfield 25, 3) := by decide +kernel
theorem dX11_giveNow_4 : decode cX11_giveNow 4 = .ok (.bipush 7, 2) := by decide +kernel
theorem dX11_giveNow_6 : decode cX11_giveNow 6 = .ok (.iload_n 1, 1) := by decide +kernel
theorem dX11_giveNow_7 : decode cX11_giveNow 7 = .ok (.iadd, 1) := by decide +kernel
theorem dX11_giveNow_8 : decode cX11_giveNow 8 = .ok (.aload_n 0, 1) := by decide +kernel
theorem dX11_giveNow_9 : decode cX11_giveNow 9 = .ok (.getfield 25, 3) := by decide +kernel
theorem dX11_giveNow_12 : decode cX11_giveNow 12 = .ok (.bipush 7, 2) := by decide +kernel
theorem dX11_giveNow_14 : decode cX11_giveNow 14 = .ok (.iload_n 1, 1) := by decide +kernel
theorem dX11_giveNow_15 : decode cX11_giveNow 15 = .ok (.iadd, 1) := by decide +kernel
theorem dX11_giveNow_16 : decode cX11_giveNow 16 = .ok (.iaload, 1) := by decide +kernel
theorem dX11_giveNow_17 : decode cX11_giveNow 17 = .ok (.iload_n 2, 1) := by decide +kernel
theorem dX11_giveNow_18 : decode cX11_giveNow 18 = .ok (.iadd, 1) := by decide +kernel
theorem dX11_giveNow_19 : decode cX11_giveNow 19 = .ok (.sipush 9999, 3) := by decide +kernel
theorem dX11_giveNow_22 : decode cX11_giveNow 22 = .ok (.if_icmp .ge 17, 3) := by decide +kernel
theorem dX11_giveNow_25 : decode cX11_giveNow 25 = .ok (.aload_n 0, 1) := by decide +kernel
theorem dX11_giveNow_26 : decode cX11_giveNow 26 = .ok (.getfield 25, 3) := by decide +kernel
theorem dX11_giveNow_29 : decode cX11_giveNow 29 = .ok (.bipush 7, 2) := by decide +kernel
theorem dX11_giveNow_31 : decode cX11_giveNow 31 = .ok (.iload_n 1, 1) := by decide +kernel
theorem dX11_giveNow_32 : decode cX11_giveNow 32 = .ok (.iadd, 1) := by decide +kernel
theorem dX11_giveNow_33 : decode cX11_giveNow 33 = .ok (.iaload, 1) := by decide +kernel
theorem dX11_giveNow_34 : decode cX11_giveNow 34 = .ok (.iload_n 2, 1) := by decide +kernel
theorem dX11_giveNow_35 : decode cX11_giveNow 35 = .ok (.iadd, 1) := by decide +kernel
theorem dX11_giveNow_36 : decode cX11_giveNow 36 = .ok (.goto 6, 3) := by decide +kernel
theorem dX11_giveNow_39 : decode cX11_giveNow 39 = .ok (.sipush 9999, 3) := by decide +kernel
theorem dX11_giveNow_42 : decode cX11_giveNow 42 = .ok (.iastore, 1) := by decide +kernel
theorem dX11_giveNow_43 : decode cX11_giveNow 43 = .ok (.return_, 1) := by decide +kernel
theorem dX11_give_0 : decode cX11_give 0 = .ok (.aload_n 0, 1) := by decide +kernel
theorem dX11_give_1 : decode cX11_give 1 = .ok (.iload_n 1, 1) := by decide +kernel
theorem dX11_give_2 : decode cX11_give 2 = .ok (.invokevirtual 228, 3) := by decide +kernel
theorem dX11_give_5 : decode cX11_give 5 = .ok (.ifCond .ne 6, 3) := by decide +kernel
theorem dX11_give_8 : decode cX11_give 8 = .ok (.ldc 231, 2) := by decide +kernel
theorem dX11_give_10 : decode cX11_give 10 = .ok (.ireturn, 1) := by decide +kernel
theorem dX11_give_11 : decode cX11_give 11 = .ok (.iload_n 2, 1) := by decide +kernel
theorem dX11_give_12 : decode cX11_give 12 = .ok (.i2l, 1) := by decide +kernel
theorem dX11_give_13 : decode cX11_give 13 = .ok (.lconst 1, 1) := by decide +kernel
theorem dX11_give_14 : decode cX11_give 14 = .ok (.ldc2_w 265, 3) := by decide +kernel
theorem dX11_give_17 : decode cX11_give 17 = .ok (.invokestatic 84, 3) := by decide +kernel
theorem dX11_give_20 : decode cX11_give 20 = .ok (.ifCond .ne 6, 3) := by decide +kernel
theorem dX11_give_23 : decode cX11_give 23 = .ok (.ldc 93, 2) := by decide +kernel
theorem dX11_give_25 : decode cX11_give 25 = .ok (.ireturn, 1) := by decide +kernel
theorem dX11_give_26 : decode cX11_give 26 = .ok (.aload_n 0, 1) := by decide +kernel
theorem dX11_give_27 : decode cX11_give 27 = .ok (.invokevirtual 249, 3) := by decide +kernel
theorem dX11_give_30 : decode cX11_give 30 = .ok (.aload_n 0, 1) := by decide +kernel
theorem dX11_give_31 : decode cX11_give 31 = .ok (.iload_n 1, 1) := by decide +kernel
theorem dX11_give_32 : decode cX11_give 32 = .ok (.iload_n 2, 1) := by decide +kernel
theorem dX11_give_33 : decode cX11_give 33 = .ok (.invokevirtual 267, 3) := by decide +kernel
theorem dX11_give_36 : decode cX11_give 36 = .ok (.aload_n 0, 1) := by decide +kernel
theorem dX11_give_37 : decode cX11_give 37 = .ok (.getfield 25, 3) := by decide +kernel
theorem dX11_give_40 : decode cX11_give 40 = .ok (.bipush 7, 2) := by decide +kernel
theorem dX11_give_42 : decode cX11_give 42 = .ok (.iload_n 1, 1) := by decide +kernel
theorem dX11_give_43 : decode cX11_give 43 = .ok (.iadd, 1) := by decide +kernel
theorem dX11_give_44 : decode cX11_give 44 = .ok (.iaload, 1) := by decide +kernel
theorem dX11_give_45 : decode cX11_give 45 = .ok (.ireturn, 1) := by decide +kernel
theorem dX11_rate_0 : decode cX11_rate 0 = .ok (.iload_n 1, 1) := by decide +kernel
theorem dX11_rate_1 : decode cX11_rate 1 = .ok (.i2l, 1) := by decide +kernel
theorem dX11_rate_2 : decode cX11_rate 2 = .ok (.lconst 1, 1) := by decide +kernel
theorem dX11_rate_3 : decode cX11_rate 3 = .ok (.ldc2_w 270, 3) := by decide +kernel
theorem dX11_rate_6 : decode cX11_rate 6 = .ok (.invokestatic 84, 3) := by decide +kernel
theorem dX11_rate_9 : decode cX11_rate 9 = .ok (.ifCond .ne 6, 3) := by decide +kernel
theorem dX11_rate_12 : decode cX11_rate 12 = .ok (.ldc 93, 2) := by decide +kernel
theorem dX11_rate_14 : decode cX11_rate 14 = .ok (.ireturn, 1) := by decide +kernel
theorem dX11_rate_15 : decode cX11_rate 15 = .ok (.aload_n 0, 1) := by decide +kernel
theorem dX11_rate_16 : decode cX11_rate 16 = .ok (.getfield 88, 3) := by decide +kernel
theorem dX11_rate_19 : decode cX11_rate 19 = .ok (.ifCond .ne 6, 3) := by decide +kernel
theorem dX11_rate_22 : decode cX11_rate 22 = .ok (.ldc 245, 2) := by decide +kernel
theorem dX11_rate_24 : decode cX11_rate 24 = .ok (.ireturn, 1) := by decide +kernel
theorem dX11_rate_25 : decode cX11_rate 25 = .ok (.aload_n 0, 1) := by decide +kernel
theorem dX11_rate_26 : decode cX11_rate 26 = .ok (.invokevirtual 249, 3) := by decide +kernel
theorem dX11_rate_29 : decode cX11_rate 29 = .ok (.aload_n 0, 1) := by decide +kernel
theorem dX11_rate_30 : decode cX11_rate 30 = .ok (.getfield 25, 3) := by decide +kernel
theorem dX11_rate_33 : decode cX11_rate 33 = .ok (.bipush 25, 2) := by decide +kernel
theorem dX11_rate_35 : decode cX11_rate 35 = .ok (.iaload, 1) := by decide +kernel
theorem dX11_rate_36 : decode cX11_rate 36 = .ok (.istore_n 2, 1) := by decide +kernel
theorem dX11_rate_37 : decode cX11_rate 37 = .ok (.aload_n 0, 1) := by decide +kernel
theorem dX11_rate_38 : decode cX11_rate 38 = .ok (.getfield 25, 3) := by decide +kernel
theorem dX11_rate_41 : decode cX11_rate 41 = .ok (.bipush 25, 2) := by decide +kernel
theorem dX11_rate_43 : decode cX11_rate 43 = .ok (.iload_n 1, 1) := by decide +kernel
theorem dX11_rate_44 : decode cX11_rate 44 = .ok (.iastore, 1) := by decide +kernel
theorem dX11_rate_45 : decode cX11_rate 45 = .ok (.iload_n 2, 1) := by decide +kernel
theorem dX11_rate_46 : decode cX11_rate 46 = .ok (.ireturn, 1) := by decide +kernel
theorem dX11_inspect_0 : decode cX11_inspect 0 = .ok (.iload_n 1, 1) := by decide +kernel
theorem dX11_inspect_1 : decode cX11_inspect 1 = .ok (.i2l, 1) := by decide +kernel
theorem dX11_inspect_2 : decode cX11_inspect 2 = .ok (.lconst 0, 1) := by decide +kernel
theorem dX11_inspect_3 : decode cX11_inspect 3 = .ok (.aload_n 0, 1) := by decide +kernel
theorem dX11_inspect_4 : decode cX11_inspect 4 = .ok (.getfield 153, 3) := by decide +kernel
theorem dX11_inspect_7 : decode cX11_inspect 7 = .ok (.iconst 1, 1) := by decide +kernel
theorem dX11_inspect_8 : decode cX11_inspect 8 = .ok (.isub, 1) := by decide +kernel
theorem dX11_inspect_9 : decode cX11_inspect 9 = .ok (.i2l, 1) := by decide +kernel
theorem dX11_inspect_10 : decode cX11_inspect 10 = .ok (.invokestatic 84, 3) := by decide +kernel
theorem dX11_inspect_13 : decode cX11_inspect 13 = .ok (.ifCond .eq 11, 3) := by decide +kernel
theorem dX11_inspect_16 : decode cX11_inspect 16 = .ok (.aload_n 0, 1) := by decide +kernel
theorem dX11_inspect_17 : decode cX11_inspect 17 = .ok (.iload_n 2, 1) := by decide +kernel
theorem dX11_inspect_18 : decode cX11_inspect 18 = .ok (.invokevirtual 232, 3) := by decide +kernel
theorem dX11_inspect_21 : decode cX11_inspect 21 = .ok (.ifCond .ne 6, 3) := by decide +kernel
theorem dX11_inspect_24 : decode cX11_inspect 24 = .ok (.ldc 231, 2) := by decide +kernel
theorem dX11_inspect_26 : decode cX11_inspect 26 = .ok (.ireturn, 1) := by decide +kernel
theorem dX11_inspect_27 : decode cX11_inspect 27 = .ok (.aload_n 0, 1) := by decide +kernel
theorem dX11_inspect_28 : decode cX11_inspect 28 = .ok (.getfield 25, 3) := by decide +kernel
theorem dX11_inspect_31 : decode cX11_inspect 31 = .ok (.bipush 21, 2) := by decide +kernel
theorem dX11_inspect_33 : decode cX11_inspect 33 = .ok (.iload_n 1, 1) := by decide +kernel
theorem dX11_inspect_34 : decode cX11_inspect 34 = .ok (.iadd, 1) := by decide +kernel
theorem dX11_inspect_35 : decode cX11_inspect 35 = .ok (.iaload, 1) := by decide +kernel
theorem dX11_inspect_36 : decode cX11_inspect 36 = .ok (.iload_n 2, 1) := by decide +kernel
theorem dX11_inspect_37 : decode cX11_inspect 37 = .ok (.if_icmp .ne 6, 3) := by decide +kernel
theorem dX11_inspect_40 : decode cX11_inspect 40 = .ok (.ldc 245, 2) := by decide +kernel
theorem dX11_inspect_42 : decode cX11_inspect 42 = .ok (.ireturn, 1) := by decide +kernel
theorem dX11_inspect_43 : decode cX11_inspect 43 = .ok (.aload_n 0, 1) := by decide +kernel
theorem dX11_inspect_44 : decode cX11_inspect 44 = .ok (.invokevirtual 249, 3) := by decide +kernel
theorem dX11_inspect_47 : decode cX11_inspect 47 = .ok (.aload_n 0, 1) := by decide +kernel
theorem dX11_inspect_48 : decode cX11_inspect 48 = .ok (.getfield 25, 3) := by decide +kernel
theorem dX11_inspect_51 : decode cX11_inspect 51 = .ok (.bipush 21, 2) := by decide +kernel
theorem dX11_inspect_53 : decode cX11_inspect 53 = .ok (.iload_n 1, 1) := by decide +kernel
theorem dX11_inspect_54 : decode cX11_inspect 54 = .ok (.iadd, 1) := by decide +kernel
theorem dX11_inspect_55 : decode cX11_inspect 55 = .ok (.iaload, 1) := by decide +kernel
theorem dX11_inspect_56 : decode cX11_inspect 56 = .ok (.istore_n 3, 1) := by decide +kernel
theorem dX11_inspect_57 : decode cX11_inspect 57 = .ok (.aload_n 0, 1) := by decide +kernel
theorem dX11_inspect_58 : decode cX11_inspect 58 = .ok (.getfield 25, 3) := by decide +kernel
theorem dX11_inspect_61 : decode cX11_inspect 61 = .ok (.bipush 21, 2) := by decide +kernel
theorem dX11_inspect_63 : decode cX11_inspect 63 = .ok (.iload_n 1, 1) := by decide +kernel
theorem dX11_inspect_64 : decode cX11_inspect 64 = .ok (.iadd, 1) := by decide +kernel
theorem dX11_inspect_65 : decode cX11_inspect 65 = .ok (.iload_n 2, 1) := by decide +kernel
theorem dX11_inspect_66 : decode cX11_inspect 66 = .ok (.iastore, 1) := by decide +kernel
theorem dX11_inspect_67 : decode cX11_inspect 67 = .ok (.iload_n 3, 1) := by decide +kernel
theorem dX11_inspect_68 : decode cX11_inspect 68 = .ok (.ireturn, 1) := by decide +kernel
theorem dX11_draw_0 : decode cX11_draw 0 = .ok (.aload_n 0, 1) := by decide +kernel
theorem dX11_draw_1 : decode cX11_draw 1 = .ok (.aload_n 0, 1) := by decide +kernel
theorem dX11_draw_2 : decode cX11_draw 2 = .ok (.getfield 272, 3) := by decide +kernel
theorem dX11_draw_5 : decode cX11_draw 5 = .ok (.i2l, 1) := by decide +kernel
theorem dX11_draw_6 : decode cX11_draw 6 = .ok (.ldc2_w 275, 3) := by decide +kernel
theorem dX11_draw_9 : decode cX11_draw 9 = .ok (.lmul, 1) := by decide +kernel
theorem dX11_draw_10 : decode cX11_draw 10 = .ok (.ldc2_w 277, 3) := by decide +kernel
theorem dX11_draw_13 : decode cX11_draw 13 = .ok (.ladd, 1) := by decide +kernel
theorem dX11_draw_14 : decode cX11_draw 14 = .ok (.ldc2_w 279, 3) := by decide +kernel
theorem dX11_draw_17 : decode cX11_draw 17 = .ok (.lrem, 1) := by decide +kernel
theorem dX11_draw_18 : decode cX11_draw 18 = .ok (.l2i, 1) := by decide +kernel
theorem dX11_draw_19 : decode cX11_draw 19 = .ok (.putfield 272, 3) := by decide +kernel
theorem dX11_draw_22 : decode cX11_draw 22 = .ok (.aload_n 0, 1) := by decide +kernel
theorem dX11_draw_23 : decode cX11_draw 23 = .ok (.getfield 272, 3) := by decide +kernel
theorem dX11_draw_26 : decode cX11_draw 26 = .ok (.ldc_w 281, 3) := by decide +kernel
theorem dX11_draw_29 : decode cX11_draw 29 = .ok (.idiv, 1) := by decide +kernel
theorem dX11_draw_30 : decode cX11_draw 30 = .ok (.iload_n 1, 1) := by decide +kernel
theorem dX11_draw_31 : decode cX11_draw 31 = .ok (.irem, 1) := by decide +kernel
theorem dX11_draw_32 : decode cX11_draw 32 = .ok (.ireturn, 1) := by decide +kernel
theorem dX11_chance_0 : decode cX11_chance 0 = .ok (.aload_n 0, 1) := by decide +kernel
theorem dX11_chance_1 : decode cX11_chance 1 = .ok (.iconst 5, 1) := by decide +kernel
theorem dX11_chance_2 : decode cX11_chance 2 = .ok (.invokevirtual 282, 3) := by decide +kernel
theorem dX11_chance_5 : decode cX11_chance 5 = .ok (.istore_n 1, 1) := by decide +kernel
theorem dX11_chance_6 : decode cX11_chance 6 = .ok (.aload_n 0, 1) := by decide +kernel
theorem dX11_chance_7 : decode cX11_chance 7 = .ok (.aload_n 0, 1) := by decide +kernel
theorem dX11_chance_8 : decode cX11_chance 8 = .ok (.getfield 81, 3) := by decide +kernel
theorem dX11_chance_11 : decode cX11_chance 11 = .ok (.invokevirtual 282, 3) := by decide +kernel
theorem dX11_chance_14 : decode cX11_chance 14 = .ok (.istore_n 2, 1) := by decide +kernel
theorem dX11_chance_15 : decode cX11_chance 15 = .ok (.iload_n 1, 1) := by decide +kernel
theorem dX11_chance_16 : decode cX11_chance 16 = .ok (.ifCond .ne 19, 3) := by decide +kernel
theorem dX11_chance_19 : decode cX11_chance 19 = .ok (.aload_n 0, 1) := by decide +kernel
theorem dX11_chance_20 : decode cX11_chance 20 = .ok (.iload_n 2, 1) := by decide +kernel
theorem dX11_chance_21 : decode cX11_chance 21 = .ok (.invokevirtual 183, 3) := by decide +kernel
theorem dX11_chance_24 : decode cX11_chance 24 = .ok (.ifCond .ne 11, 3) := by decide +kernel
theorem dX11_chance_27 : decode cX11_chance 27 = .ok (.aload_n 0, 1) := by decide +kernel
theorem dX11_chance_28 : decode cX11_chance 28 = .ok (.iload_n 2, 1) := by decide +kernel
theorem dX11_chance_29 : decode cX11_chance 29 = .ok (.invokevirtual 258, 3) := by decide +kernel
theorem dX11_chance_32 : decode cX11_chance 32 = .ok (.goto 106, 3) := by decide +kernel
theorem dX11_chance_35 : decode cX11_chance 35 = .ok (.iload_n 1, 1) := by decide +kernel
theorem dX11_chance_36 : decode cX11_chance 36 = .ok (.iconst 1, 1) := by decide +kernel
theorem dX11_chance_37 : decode cX11_chance 37 = .ok (.if_icmp .ne 11, 3) := by decide +kernel
theorem dX11_chance_40 : decode cX11_chance 40 = .ok (.aload_n 0, 1) := by decide +kernel
theorem dX11_chance_41 : decode cX11_chance 41 = .ok (.iload_n 2, 1) := by decide +kernel
theorem dX11_chance_42 : decode cX11_chance 42 = .ok (.invokevirtual 239, 3) := by decide +kernel
theorem dX11_chance_45 : decode cX11_chance 45 = .ok (.goto 93, 3) := by decide +kernel
theorem dX11_chance_48 : decode cX11_chance 48 = .ok (.iload_n 1, 1) := by decide +kernel
theorem dX11_chance_49 : decode cX11_chance 49 = .ok (.iconst 2, 1) := by decide +kernel
theorem dX11_chance_50 : decode cX11_chance 50 = .ok (.if_icmp .ne 31, 3) := by decide +kernel
theorem dX11_chance_53 : decode cX11_chance 53 = .ok (.aload_n 0, 1) := by decide +kernel
theorem dX11_chance_54 : decode cX11_chance 54 = .ok (.aload_n 0, 1) := by decide +kernel
theorem dX11_chance_55 : decode cX11_chance 55 = .ok (.getfield 88, 3) := by decide +kernel
theorem dX11_chance_58 : decode cX11_chance 58 = .ok (.invokevirtual 282, 3) := by decide +kernel
theorem dX11_chance_61 : decode cX11_chance 61 = .ok (.istore_n 3, 1) := by decide +kernel
theorem dX11_chance_62 : decode cX11_chance 62 = .ok (.iload_n 3, 1) := by decide +kernel
theorem dX11_chance_63 : decode cX11_chance 63 = .ok (.aload_n 0, 1) := by decide +kernel
theorem dX11_chance_64 : decode cX11_chance 64 = .ok (.getfield 25, 3) := by decide +kernel
theorem dX11_chance_67 : decode cX11_chance 67 = .ok (.iload_n 2, 1) := by decide +kernel
theorem dX11_chance_68 : decode cX11_chance 68 = .ok (.iaload, 1) := by decide +kernel
theorem dX11_chance_69 : decode cX11_chance 69 = .ok (.if_icmp .eq 9, 3) := by decide +kernel
theorem dX11_chance_72 : decode cX11_chance 72 = .ok (.aload_n 0, 1) := by decide +kernel
theorem dX11_chance_73 : decode cX11_chance 73 = .ok (.iload_n 2, 1) := by decide +kernel
theorem dX11_chance_74 : decode cX11_chance 74 = .ok (.iload_n 3, 1) := by decide +kernel
theorem dX11_chance_75 : decode cX11_chance 75 = .ok (.invokevirtual 261, 3) := by decide +kernel
theorem dX11_chance_78 : decode cX11_chance 78 = .ok (.goto 60, 3) := by decide +kernel
theorem dX11_chance_81 : decode cX11_chance 81 = .ok (.iload_n 1, 1) := by decide +kernel
theorem dX11_chance_82 : decode cX11_chance 82 = .ok (.iconst 3, 1) := by decide +kernel
theorem dX11_chance_83 : decode cX11_chance 83 = .ok (.if_icmp .ne 17, 3) := by decide +kernel
theorem dX11_chance_86 : decode cX11_chance 86 = .ok (.aload_n 0, 1) := by decide +kernel
theorem dX11_chance_87 : decode cX11_chance 87 = .ok (.iload_n 2, 1) := by decide +kernel
theorem dX11_chance_88 : decode cX11_chance 88 = .ok (.aload_n 0, 1) := by decide +kernel
theorem dX11_chance_89 : decode cX11_chance 89 = .ok (.bipush 50, 2) := by decide +kernel
theorem dX11_chance_91 : decode cX11_chance 91 = .ok (.invokevirtual 282, 3) := by decide +kernel
theorem dX11_chance_94 : decode cX11_chance 94 = .ok (.invokevirtual 267, 3) := by decide +kernel
theorem dX11_chance_97 : decode cX11_chance 97 = .ok (.goto 41, 3) := by decide +kernel
theorem dX11_chance_100 : decode cX11_chance 100 = .ok (.iload_n 1, 1) := by decide +kernel
theorem dX11_chance_101 : decode cX11_chance 101 = .ok (.iconst 4, 1) := by decide +kernel
theorem dX11_chance_102 : decode cX11_chance 102 = .ok (.if_icmp .ne 36, 3) := by decide +kernel
theorem dX11_chance_105 : decode cX11_chance 105 = .ok (.aload_n 0, 1) := by decide +kernel
theorem dX11_chance_106 : decode cX11_chance 106 = .ok (.getfield 153, 3) := by decide +kernel
theorem dX11_chance_109 : decode cX11_chance 109 = .ok (.ifCond .le 29, 3) := by decide +kernel
theorem dX11_chance_112 : decode cX11_chance 112 = .ok (.aload_n 0, 1) := by decide +kernel
theorem dX11_chance_113 : decode cX11_chance 113 = .ok (.aload_n 0, 1) := by decide +kernel
theorem dX11_chance_114 : decode cX11_chance 114 = .ok (.getfield 153, 3) := by decide +kernel
theorem dX11_chance_117 : decode cX11_chance 117 = .ok (.invokevirtual 282, 3) := by decide +kernel
theorem dX11_chance_120 : decode cX11_chance 120 = .ok (.istore_n 3, 1) := by decide +kernel
theorem dX11_chance_121 : decode cX11_chance 121 = .ok (.aload_n 0, 1) := by decide +kernel
theorem dX11_chance_122 : decode cX11_chance 122 = .ok (.getfield 25, 3) := by decide +kernel
theorem dX11_chance_125 : decode cX11_chance 125 = .ok (.bipush 21, 2) := by decide +kernel
theorem dX11_chance_127 : decode cX11_chance 127 = .ok (.iload_n 3, 1) := by decide +kernel
theorem dX11_chance_128 : decode cX11_chance 128 = .ok (.iadd, 1) := by decide +kernel
theorem dX11_chance_129 : decode cX11_chance 129 = .ok (.aload_n 0, 1) := by decide +kernel
theorem dX11_chance_130 : decode cX11_chance 130 = .ok (.aload_n 0, 1) := by decide +kernel
theorem dX11_chance_131 : decode cX11_chance 131 = .ok (.getfield 88, 3) := by decide +kernel
theorem dX11_chance_134 : decode cX11_chance 134 = .ok (.invokevirtual 282, 3) := by decide +kernel
theorem dX11_chance_137 : decode cX11_chance 137 = .ok (.iastore, 1) := by decide +kernel
theorem dX11_chance_138 : decode cX11_chance 138 = .ok (.return_, 1) := by decide +kernel
theorem dX11_drift_0 : decode cX11_drift 0 = .ok (.aload_n 0, 1) := by decide +kernel
theorem dX11_drift_1 : decode cX11_drift 1 = .ok (.iload_n 1, 1) := by decide +kernel
theorem dX11_drift_2 : decode cX11_drift 2 = .ok (.invokevirtual 246, 3) := by decide +kernel
theorem dX11_drift_5 : decode cX11_drift 5 = .ok (.istore_n 2, 1) := by decide +kernel
theorem dX11_drift_6 : decode cX11_drift 6 = .ok (.iload_n 2, 1) := by decide +kernel
theorem dX11_drift_7 : decode cX11_drift 7 = .ok (.ifCond .eq 5, 3) := by decide +kernel
theorem dX11_drift_10 : decode cX11_drift 10 = .ok (.iload_n 2, 1) := by decide +kernel
theorem dX11_drift_11 : decode cX11_drift 11 = .ok (.ireturn, 1) := by decide +kernel
theorem dX11_drift_12 : decode cX11_drift 12 = .ok (.aload_n 0, 1) := by decide +kernel
theorem dX11_drift_13 : decode cX11_drift 13 = .ok (.invokevirtual 249, 3) := by decide +kernel
theorem dX11_drift_16 : decode cX11_drift 16 = .ok (.iconst 0, 1) := by decide +kernel
theorem dX11_drift_17 : decode cX11_drift 17 = .ok (.istore_n 3, 1) := by decide +kernel
theorem dX11_drift_18 : decode cX11_drift 18 = .ok (.iload_n 3, 1) := by decide +kernel
theorem dX11_drift_19 : decode cX11_drift 19 = .ok (.iload_n 1, 1) := by decide +kernel
theorem dX11_drift_20 : decode cX11_drift 20 = .ok (.if_icmp .ge 24, 3) := by decide +kernel
theorem dX11_drift_23 : decode cX11_drift 23 = .ok (.aload_n 0, 1) := by decide +kernel
theorem dX11_drift_24 : decode cX11_drift 24 = .ok (.getfield 81, 3) := by decide +kernel
theorem dX11_drift_27 : decode cX11_drift 27 = .ok (.ifCond .le 7, 3) := by decide +kernel
theorem dX11_drift_30 : decode cX11_drift 30 = .ok (.aload_n 0, 1) := by decide +kernel
theorem dX11_drift_31 : decode cX11_drift 31 = .ok (.invokevirtual 285, 3) := by decide +kernel
theorem dX11_drift_34 : decode cX11_drift 34 = .ok (.aload_n 0, 1) := by decide +kernel
theorem dX11_drift_35 : decode cX11_drift 35 = .ok (.invokevirtual 252, 3) := by decide +kernel
theorem dX11_drift_38 : decode cX11_drift 38 = .ok (.iinc 3 1, 3) := by decide +kernel
theorem dX11_drift_41 : decode cX11_drift 41 = .ok (.goto (-23), 3) := by decide +kernel
theorem dX11_drift_44 : decode cX11_drift 44 = .ok (.aload_n 0, 1) := by decide +kernel
theorem dX11_drift_45 : decode cX11_drift 45 = .ok (.getfield 25, 3) := by decide +kernel
theorem dX11_drift_48 : decode cX11_drift 48 = .ok (.bipush 26, 2) := by decide +kernel
theorem dX11_drift_50 : decode cX11_drift 50 = .ok (.iaload, 1) := by decide +kernel
theorem dX11_drift_51 : decode cX11_drift 51 = .ok (.ireturn, 1) := by decide +kernel
theorem dX11_undo_0 : decode cX11_undo 0 = .ok (.aload_n 0, 1) := by decide +kernel
theorem dX11_undo_1 : decode cX11_undo 1 = .ok (.getfield 176, 3) := by decide +kernel
theorem dX11_undo_4 : decode cX11_undo 4 = .ok (.ifCond .ne 6, 3) := by decide +kernel
theorem dX11_undo_7 : decode cX11_undo 7 = .ok (.ldc 245, 2) := by decide +kernel
theorem dX11_undo_9 : decode cX11_undo 9 = .ok (.ireturn, 1) := by decide +kernel
theorem dX11_undo_10 : decode cX11_undo 10 = .ok (.aload_n 0, 1) := by decide +kernel
theorem dX11_undo_11 : decode cX11_undo 11 = .ok (.dup, 1) := by decide +kernel
theorem dX11_undo_12 : decode cX11_undo 12 = .ok (.getfield 176, 3) := by decide +kernel
theorem dX11_undo_15 : decode cX11_undo 15 = .ok (.iconst 1, 1) := by decide +kernel
theorem dX11_undo_16 : decode cX11_undo 16 = .ok (.isub, 1) := by decide +kernel
theorem dX11_undo_17 : decode cX11_undo 17 = .ok (.putfield 176, 3) := by decide +kernel
theorem dX11_undo_20 : decode cX11_undo 20 = .ok (.iconst 0, 1) := by decide +kernel
theorem dX11_undo_21 : decode cX11_undo 21 = .ok (.istore_n 1, 1) := by decide +kernel
theorem dX11_undo_22 : decode cX11_undo 22 = .ok (.iload_n 1, 1) := by decide +kernel
theorem dX11_undo_23 : decode cX11_undo 23 = .ok (.bipush 29, 2) := by decide +kernel
theorem dX11_undo_25 : decode cX11_undo 25 = .ok (.if_icmp .ge 29, 3) := by decide +kernel
theorem dX11_undo_28 : decode cX11_undo 28 = .ok (.aload_n 0, 1) := by decide +kernel
theorem dX11_undo_29 : decode cX11_undo 29 = .ok (.getfield 25, 3) := by decide +kernel
theorem dX11_undo_32 : decode cX11_undo 32 = .ok (.iload_n 1, 1) := by decide +kernel
theorem dX11_undo_33 : decode cX11_undo 33 = .ok (.aload_n 0, 1) := by decide +kernel
theorem dX11_undo_34 : decode cX11_undo 34 = .ok (.getfield 50, 3) := by decide +kernel
theorem dX11_undo_37 : decode cX11_undo 37 = .ok (.bipush 29, 2) := by decide +kernel
theorem dX11_undo_39 : decode cX11_undo 39 = .ok (.aload_n 0, 1) := by decide +kernel
theorem dX11_undo_40 : decode cX11_undo 40 = .ok (.getfield 176, 3) := by decide +kernel
theorem dX11_undo_43 : decode cX11_undo 43 = .ok (.imul, 1) := by decide +kernel
theorem dX11_undo_44 : decode cX11_undo 44 = .ok (.iload_n 1, 1) := by decide +kernel
theorem dX11_undo_45 : decode cX11_undo 45 = .ok (.iadd, 1) := by decide +kernel
theorem dX11_undo_46 : decode cX11_undo 46 = .ok (.iaload, 1) := by decide +kernel
theorem dX11_undo_47 : decode cX11_undo 47 = .ok (.iastore, 1) := by decide +kernel
theorem dX11_undo_48 : decode cX11_undo 48 = .ok (.iinc 1 1, 3) := by decide +kernel
theorem dX11_undo_51 : decode cX11_undo 51 = .ok (.goto (-29), 3) := by decide +kernel
theorem dX11_undo_54 : decode cX11_undo 54 = .ok (.aload_n 0, 1) := by decide +kernel
theorem dX11_undo_55 : decode cX11_undo 55 = .ok (.getfield 176, 3) := by decide +kernel
theorem dX11_undo_58 : decode cX11_undo 58 = .ok (.ireturn, 1) := by decide +kernel
theorem dX11_treasury_0 : decode cX11_treasury 0 = .ok (.iload_n 1, 1) := by decide +kernel
theorem dX11_treasury_1 : decode cX11_treasury 1 = .ok (.i2l, 1) := by decide +kernel
theorem dX11_treasury_2 : decode cX11_treasury 2 = .ok (.lconst 0, 1) := by decide +kernel
theorem dX11_treasury_3 : decode cX11_treasury 3 = .ok (.ldc2_w 288, 3) := by decide +kernel
theorem dX11_treasury_6 : decode cX11_treasury 6 = .ok (.invokestatic 84, 3) := by decide +kernel
theorem dX11_treasury_9 : decode cX11_treasury 9 = .ok (.ifCond .ne 6, 3) := by decide +kernel
theorem dX11_treasury_12 : decode cX11_treasury 12 = .ok (.ldc 93, 2) := by decide +kernel
theorem dX11_treasury_14 : decode cX11_treasury 14 = .ok (.ireturn, 1) := by decide +kernel
theorem dX11_treasury_15 : decode cX11_treasury 15 = .ok (.aload_n 0, 1) := by decide +kernel
theorem dX11_treasury_16 : decode cX11_treasury 16 = .ok (.getfield 88, 3) := by decide +kernel
theorem dX11_treasury_19 : decode cX11_treasury 19 = .ok (.ifCond .ne 6, 3) := by decide +kernel
theorem dX11_treasury_22 : decode cX11_treasury 22 = .ok (.ldc 245, 2) := by decide +kernel
theorem dX11_treasury_24 : decode cX11_treasury 24 = .ok (.ireturn, 1) := by decide +kernel
theorem dX11_treasury_25 : decode cX11_treasury 25 = .ok (.aload_n 0, 1) := by decide +kernel
theorem dX11_treasury_26 : decode cX11_treasury 26 = .ok (.getfield 25, 3) := by decide +kernel
theorem dX11_treasury_29 : decode cX11_treasury 29 = .ok (.aload_n 0, 1) := by decide +kernel
theorem dX11_treasury_30 : decode cX11_treasury 30 = .ok (.getfield 53, 3) := by decide +kernel
theorem dX11_treasury_33 : decode cX11_treasury 33 = .ok (.bipush 29, 2) := by decide +kernel
theorem dX11_treasury_35 : decode cX11_treasury 35 = .ok (.invokestatic 156, 3) := by decide +kernel
theorem dX11_treasury_38 : decode cX11_treasury 38 = .ok (.iconst 0, 1) := by decide +kernel
theorem dX11_treasury_39 : decode cX11_treasury 39 = .ok (.istore_n 2, 1) := by decide +kernel
theorem dX11_treasury_40 : decode cX11_treasury 40 = .ok (.iload_n 2, 1) := by decide +kernel
theorem dX11_treasury_41 : decode cX11_treasury 41 = .ok (.iload_n 1, 1) := by decide +kernel
theorem dX11_treasury_42 : decode cX11_treasury 42 = .ok (.if_icmp .ge 13, 3) := by decide +kernel
theorem dX11_treasury_45 : decode cX11_treasury 45 = .ok (.aload_n 0, 1) := by decide +kernel
theorem dX11_treasury_46 : decode cX11_treasury 46 = .ok (.invokevirtual 252, 3) := by decide +kernel
theorem dX11_treasury_49 : decode cX11_treasury 49 = .ok (.iinc 2 1, 3) := by decide +kernel
theorem dX11_treasury_52 : decode cX11_treasury 52 = .ok (.goto (-12), 3) := by decide +kernel
theorem dX11_treasury_55 : decode cX11_treasury 55 = .ok (.aload_n 0, 1) := by decide +kernel
theorem dX11_treasury_56 : decode cX11_treasury 56 = .ok (.getfield 25, 3) := by decide +kernel
theorem dX11_treasury_59 : decode cX11_treasury 59 = .ok (.bipush 26, 2) := by decide +kernel
theorem dX11_treasury_61 : decode cX11_treasury 61 = .ok (.iaload, 1) := by decide +kernel
theorem dX11_treasury_62 : decode cX11_treasury 62 = .ok (.istore_n 2, 1) := by decide +kernel
theorem dX11_treasury_63 : decode cX11_treasury 63 = .ok (.aload_n 0, 1) := by decide +kernel
theorem dX11_treasury_64 : decode cX11_treasury 64 = .ok (.getfield 53, 3) := by decide +kernel
theorem dX11_treasury_67 : decode cX11_treasury 67 = .ok (.aload_n 0, 1) := by decide +kernel
theorem dX11_treasury_68 : decode cX11_treasury 68 = .ok (.getfield 25, 3) := by decide +kernel
theorem dX11_treasury_71 : decode cX11_treasury 71 = .ok (.bipush 29, 2) := by decide +kernel
theorem dX11_treasury_73 : decode cX11_treasury 73 = .ok (.invokestatic 156, 3) := by decide +kernel
theorem dX11_treasury_76 : decode cX11_treasury 76 = .ok (.iload_n 2, 1) := by decide +kernel
theorem dX11_treasury_77 : decode cX11_treasury 77 = .ok (.ireturn, 1) := by decide +kernel
theorem dX11_lasts_0 : decode cX11_lasts 0 = .ok (.aload_n 0, 1) := by decide +kernel
theorem dX11_lasts_1 : decode cX11_lasts 1 = .ok (.iload_n 1, 1) := by decide +kernel
theorem dX11_lasts_2 : decode cX11_lasts 2 = .ok (.invokevirtual 228, 3) := by decide +kernel
theorem dX11_lasts_5 : decode cX11_lasts 5 = .ok (.ifCond .ne 6, 3) := by decide +kernel
theorem dX11_lasts_8 : decode cX11_lasts 8 = .ok (.ldc 231, 2) := by decide +kernel
theorem dX11_lasts_10 : decode cX11_lasts 10 = .ok (.ireturn, 1) := by decide +kernel
theorem dX11_lasts_11 : decode cX11_lasts 11 = .ok (.aload_n 0, 1) := by decide +kernel
theorem dX11_lasts_12 : decode cX11_lasts 12 = .ok (.getfield 25, 3) := by decide +kernel
theorem dX11_lasts_15 : decode cX11_lasts 15 = .ok (.aload_n 0, 1) := by decide +kernel
theorem dX11_lasts_16 : decode cX11_lasts 16 = .ok (.getfield 53, 3) := by decide +kernel
theorem dX11_lasts_19 : decode cX11_lasts 19 = .ok (.bipush 29, 2) := by decide +kernel
theorem dX11_lasts_21 : decode cX11_lasts 21 = .ok (.invokestatic 156, 3) := by decide +kernel
theorem dX11_lasts_24 : decode cX11_lasts 24 = .ok (.iconst 0, 1) := by decide +kernel
theorem dX11_lasts_25 : decode cX11_lasts 25 = .ok (.istore_n 2, 1) := by decide +kernel
theorem dX11_lasts_26 : decode cX11_lasts 26 = .ok (.iload_n 2, 1) := by decide +kernel
theorem dX11_lasts_27 : decode cX11_lasts 27 = .ok (.sipush 500, 3) := by decide +kernel
theorem dX11_lasts_30 : decode cX11_lasts 30 = .ok (.if_icmp .ge 21, 3) := by decide +kernel
theorem dX11_lasts_33 : decode cX11_lasts 33 = .ok (.aload_n 0, 1) := by decide +kernel
theorem dX11_lasts_34 : decode cX11_lasts 34 = .ok (.iload_n 1, 1) := by decide +kernel
theorem dX11_lasts_35 : decode cX11_lasts 35 = .ok (.invokevirtual 183, 3) := by decide +kernel
theorem dX11_lasts_38 : decode cX11_lasts 38 = .ok (.ifCond .eq 13, 3) := by decide +kernel
theorem dX11_lasts_41 : decode cX11_lasts 41 = .ok (.aload_n 0, 1) := by decide +kernel
theorem dX11_lasts_42 : decode cX11_lasts 42 = .ok (.invokevirtual 252, 3) := by decide +kernel
theorem dX11_lasts_45 : decode cX11_lasts 45 = .ok (.iinc 2 1, 3) := by decide +kernel
theorem dX11_lasts_48 : decode cX11_lasts 48 = .ok (.goto (-22), 3) := by decide +kernel
theorem dX11_lasts_51 : decode cX11_lasts 51 = .ok (.aload_n 0, 1) := by decide +kernel
theorem dX11_lasts_52 : decode cX11_lasts 52 = .ok (.iload_n 1, 1) := by decide +kernel
theorem dX11_lasts_53 : decode cX11_lasts 53 = .ok (.invokevirtual 183, 3) := by decide +kernel
theorem dX11_lasts_56 : decode cX11_lasts 56 = .ok (.ifCond .eq 7, 3) := by decide +kernel
theorem dX11_lasts_59 : decode cX11_lasts 59 = .ok (.iconst (-1), 1) := by decide +kernel
theorem dX11_lasts_60 : decode cX11_lasts 60 = .ok (.goto 4, 3) := by decide +kernel
theorem dX11_lasts_63 : decode cX11_lasts 63 = .ok (.iload_n 2, 1) := by decide +kernel
theorem dX11_lasts_64 : decode cX11_lasts 64 = .ok (.istore_n 3, 1) := by decide +kernel
theorem dX11_lasts_65 : decode cX11_lasts 65 = .ok (.aload_n 0, 1) := by decide +kernel
theorem dX11_lasts_66 : decode cX11_lasts 66 = .ok (.getfield 53, 3) := by decide +kernel
theorem dX11_lasts_69 : decode cX11_lasts 69 = .ok (.aload_n 0, 1) := by decide +kernel
theorem dX11_lasts_70 : decode cX11_lasts 70 = .ok (.getfield 25, 3) := by decide +kernel
theorem dX11_lasts_73 : decode cX11_lasts 73 = .ok (.bipush 29, 2) := by decide +kernel
theorem dX11_lasts_75 : decode cX11_lasts 75 = .ok (.invokestatic 156, 3) := by decide +kernel
theorem dX11_lasts_78 : decode cX11_lasts 78 = .ok (.iload_n 3, 1) := by decide +kernel
theorem dX11_lasts_79 : decode cX11_lasts 79 = .ok (.ireturn, 1) := by decide +kernel
theorem dX11_more_0 : decode cX11_more 0 = .ok (.aload_n 0, 1) := by decide +kernel
theorem dX11_more_1 : decode cX11_more 1 = .ok (.iload_n 1, 1) := by decide +kernel
theorem dX11_more_2 : decode cX11_more 2 = .ok (.invokevirtual 228, 3) := by decide +kernel
theorem dX11_more_5 : decode cX11_more 5 = .ok (.ifCond .eq 11, 3) := by decide +kernel
theorem dX11_more_8 : decode cX11_more 8 = .ok (.aload_n 0, 1) := by decide +kernel
theorem dX11_more_9 : decode cX11_more 9 = .ok (.iload_n 2, 1) := by decide +kernel
theorem dX11_more_10 : decode cX11_more 10 = .ok (.invokevirtual 232, 3) := by decide +kernel
theorem dX11_more_13 : decode cX11_more 13 = .ok (.ifCond .ne 6, 3) := by decide +kernel
theorem dX11_more_16 : decode cX11_more 16 = .ok (.ldc 231, 2) := by decide +kernel
theorem dX11_more_18 : decode cX11_more 18 = .ok (.ireturn, 1) := by decide +kernel
theorem dX11_more_19 : decode cX11_more 19 = .ok (.aload_n 0, 1) := by decide +kernel
theorem dX11_more_20 : decode cX11_more 20 = .ok (.iload_n 1, 1) := by decide +kernel
theorem dX11_more_21 : decode cX11_more 21 = .ok (.invokevirtual 183, 3) := by decide +kernel
theorem dX11_more_24 : decode cX11_more 24 = .ok (.ifCond .eq 8, 3) := by decide +kernel
theorem dX11_more_27 : decode cX11_more 27 = .ok (.ldc 245, 2) := by decide +kernel
theorem dX11_more_29 : decode cX11_more 29 = .ok (.goto 21, 3) := by decide +kernel
theorem dX11_more_32 : decode cX11_more 32 = .ok (.aload_n 0, 1) := by decide +kernel
theorem dX11_more_33 : decode cX11_more 33 = .ok (.iload_n 1, 1) := by decide +kernel
theorem dX11_more_34 : decode cX11_more 34 = .ok (.iload_n 2, 1) := by decide +kernel
theorem dX11_more_35 : decode cX11_more 35 = .ok (.aload_n 0, 1) := by decide +kernel
theorem dX11_more_36 : decode cX11_more 36 = .ok (.iload_n 2, 1) := by decide +kernel
theorem dX11_more_37 : decode cX11_more 37 = .ok (.invokevirtual 255, 3) := by decide +kernel
theorem dX11_more_40 : decode cX11_more 40 = .ok (.aload_n 0, 1) := by decide +kernel
theorem dX11_more_41 : decode cX11_more 41 = .ok (.getfield 25, 3) := by decide +kernel
theorem dX11_more_44 : decode cX11_more 44 = .ok (.bipush 25, 2) := by decide +kernel
theorem dX11_more_46 : decode cX11_more 46 = .ok (.iaload, 1) := by decide +kernel
theorem dX11_more_47 : decode cX11_more 47 = .ok (.invokevirtual 187, 3) := by decide +kernel
theorem dX11_more_50 : decode cX11_more 50 = .ok (.ireturn, 1) := by decide +kernel
theorem dX11_areBorne_0 : decode cX11_areBorne 0 = .ok (.iconst 1, 1) := by decide +kernel
theorem dX11_areBorne_1 : decode cX11_areBorne 1 = .ok (.istore_n 3, 1) := by decide +kernel
theorem dX11_areBorne_2 : decode cX11_areBorne 2 = .ok (.iconst 0, 1) := by decide +kernel
theorem dX11_areBorne_3 : decode cX11_areBorne 3 = .ok (.istore 4, 2) := by decide +kernel
theorem dX11_areBorne_5 : decode cX11_areBorne 5 = .ok (.iconst 0, 1) := by decide +kernel
theorem dX11_areBorne_6 : decode cX11_areBorne 6 = .ok (.istore 5, 2) := by decide +kernel
theorem dX11_areBorne_8 : decode cX11_areBorne 8 = .ok (.iload 5, 2) := by decide +kernel
theorem dX11_areBorne_10 : decode cX11_areBorne 10 = .ok (.aload_n 0, 1) := by decide +kernel
theorem dX11_areBorne_11 : decode cX11_areBorne 11 = .ok (.getfield 81, 3) := by decide +kernel
theorem dX11_areBorne_14 : decode cX11_areBorne 14 = .ok (.if_icmp .ge 60, 3) := by decide +kernel
theorem dX11_areBorne_17 : decode cX11_areBorne 17 = .ok (.iload_n 1, 1) := by decide +kernel
theorem dX11_areBorne_18 : decode cX11_areBorne 18 = .ok (.iload 5, 2) := by decide +kernel
theorem dX11_areBorne_20 : decode cX11_areBorne 20 = .ok (.invokestatic 203, 3) := by decide +kernel
theorem dX11_areBorne_23 : decode cX11_areBorne 23 = .ok (.ifCond .eq 45, 3) := by decide +kernel
theorem dX11_areBorne_26 : decode cX11_areBorne 26 = .ok (.iload_n 3, 1) := by decide +kernel
theorem dX11_areBorne_27 : decode cX11_areBorne 27 = .ok (.ifCond .eq 36, 3) := by decide +kernel
theorem dX11_areBorne_30 : decode cX11_areBorne 30 = .ok (.aload_n 0, 1) := by decide +kernel
theorem dX11_areBorne_31 : decode cX11_areBorne 31 = .ok (.getfield 25, 3) := by decide +kernel
theorem dX11_areBorne_34 : decode cX11_areBorne 34 = .ok (.bipush 7, 2) := by decide +kernel
theorem dX11_areBorne_36 : decode cX11_areBorne 36 = .ok (.iload 5, 2) := by decide +kernel
theorem dX11_areBorne_38 : decode cX11_areBorne 38 = .ok (.iadd, 1) := by decide +kernel
theorem dX11_areBorne_39 : decode cX11_areBorne 39 = .ok (.iaload, 1) := by decide +kernel
theorem dX11_areBorne_40 : decode cX11_areBorne 40 = .ok (.aload_n 0, 1) := by decide +kernel
theorem dX11_areBorne_41 : decode cX11_areBorne 41 = .ok (.iload 5, 2) := by decide +kernel
theorem dX11_areBorne_43 : decode cX11_areBorne 43 = .ok (.iload_n 2, 1) := by decide +kernel
theorem dX11_areBorne_44 : decode cX11_areBorne 44 = .ok (.iload 4, 2) := by decide +kernel
theorem dX11_areBorne_46 : decode cX11_areBorne 46 = .ok (.aload_n 0, 1) := by decide +kernel
theorem dX11_areBorne_47 : decode cX11_areBorne 47 = .ok (.getfield 25, 3) := by decide +kernel
theorem dX11_areBorne_50 : decode cX11_areBorne 50 = .ok (.bipush 25, 2) := by decide +kernel
theorem dX11_areBorne_52 : decode cX11_areBorne 52 = .ok (.iaload, 1) := by decide +kernel
theorem dX11_areBorne_53 : decode cX11_areBorne 53 = .ok (.invokevirtual 187, 3) := by decide +kernel
theorem dX11_areBorne_56 : decode cX11_areBorne 56 = .ok (.if_icmp .lt 7, 3) := by decide +kernel
theorem dX11_areBorne_59 : decode cX11_areBorne 59 = .ok (.iconst 1, 1) := by decide +kernel
theorem dX11_areBorne_60 : decode cX11_areBorne 60 = .ok (.goto 4, 3) := by decide +kernel
theorem dX11_areBorne_63 : decode cX11_areBorne 63 = .ok (.iconst 0, 1) := by decide +kernel
theorem dX11_areBorne_64 : decode cX11_areBorne 64 = .ok (.istore_n 3, 1) := by decide +kernel
theorem dX11_areBorne_65 : decode cX11_areBorne 65 = .ok (.iinc 4 1, 3) := by decide +kernel
theorem dX11_areBorne_68 : decode cX11_areBorne 68 = .ok (.iinc 5 1, 3) := by decide +kernel
theorem dX11_areBorne_71 : decode cX11_areBorne 71 = .ok (.goto (-63), 3) := by decide +kernel
theorem dX11_areBorne_74 : decode cX11_areBorne 74 = .ok (.iload_n 3, 1) := by decide +kernel
theorem dX11_areBorne_75 : decode cX11_areBorne 75 = .ok (.ireturn, 1) := by decide +kernel
theorem dX11_bears_0 : decode cX11_bears 0 = .ok (.aload_n 0, 1) := by decide +kernel
theorem dX11_bears_1 : decode cX11_bears 1 = .ok (.iload_n 1, 1) := by decide +kernel
theorem dX11_bears_2 : decode cX11_bears 2 = .ok (.invokevirtual 290, 3) := by decide +kernel
theorem dX11_bears_5 : decode cX11_bears 5 = .ok (.ifCond .eq 11, 3) := by decide +kernel
theorem dX11_bears_8 : decode cX11_bears 8 = .ok (.aload_n 0, 1) := by decide +kernel
theorem dX11_bears_9 : decode cX11_bears 9 = .ok (.iload_n 2, 1) := by decide +kernel
theorem dX11_bears_10 : decode cX11_bears 10 = .ok (.invokevirtual 232, 3) := by decide +kernel
theorem dX11_bears_13 : decode cX11_bears 13 = .ok (.ifCond .ne 6, 3) := by decide +kernel
theorem dX11_bears_16 : decode cX11_bears 16 = .ok (.ldc 231, 2) := by decide +kernel
theorem dX11_bears_18 : decode cX11_bears 18 = .ok (.ireturn, 1) := by decide +kernel
theorem dX11_bears_19 : decode cX11_bears 19 = .ok (.iload_n 3, 1) := by decide +kernel
theorem dX11_bears_20 : decode cX11_bears 20 = .ok (.i2l, 1) := by decide +kernel
theorem dX11_bears_21 : decode cX11_bears 21 = .ok (.lconst 0, 1) := by decide +kernel
theorem dX11_bears_22 : decode cX11_bears 22 = .ok (.lconst 1, 1) := by decide +kernel
theorem dX11_bears_23 : decode cX11_bears 23 = .ok (.invokestatic 84, 3) := by decide +kernel
theorem dX11_bears_26 : decode cX11_bears 26 = .ok (.ifCond .ne 6, 3) := by decide +kernel
theorem dX11_bears_29 : decode cX11_bears 29 = .ok (.ldc 93, 2) := by decide +kernel
theorem dX11_bears_31 : decode cX11_bears 31 = .ok (.ireturn, 1) := by decide +kernel
theorem dX11_bears_32 : decode cX11_bears 32 = .ok (.iconst 0, 1) := by decide +kernel
theorem dX11_bears_33 : decode cX11_bears 33 = .ok (.istore 4, 2) := by decide +kernel
theorem dX11_bears_35 : decode cX11_bears 35 = .ok (.iconst 1, 1) := by decide +kernel
theorem dX11_bears_36 : decode cX11_bears 36 = .ok (.istore 5, 2) := by decide +kernel
theorem dX11_bears_38 : decode cX11_bears 38 = .ok (.iload 5, 2) := by decide +kernel
theorem dX11_bears_40 : decode cX11_bears 40 = .ok (.iload_n 1, 1) := by decide +kernel
theorem dX11_bears_41 : decode cX11_bears 41 = .ok (.if_icmp .gt 62, 3) := by decide +kernel
theorem dX11_bears_44 : decode cX11_bears 44 = .ok (.iload 5, 2) := by decide +kernel
theorem dX11_bears_46 : decode cX11_bears 46 = .ok (.iload_n 1, 1) := by decide +kernel
theorem dX11_bears_47 : decode cX11_bears 47 = .ok (.iconst (-1), 1) := by decide +kernel
theorem dX11_bears_48 : decode cX11_bears 48 = .ok (.ixor, 1) := by decide +kernel
theorem dX11_bears_49 : decode cX11_bears 49 = .ok (.iand, 1) := by decide +kernel
theorem dX11_bears_50 : decode cX11_bears 50 = .ok (.ifCond .ne 20, 3) := by decide +kernel
theorem dX11_bears_53 : decode cX11_bears 53 = .ok (.iload 5, 2) := by decide +kernel
theorem dX11_bears_55 : decode cX11_bears 55 = .ok (.invokestatic 197, 3) := by decide +kernel
theorem dX11_bears_58 : decode cX11_bears 58 = .ok (.iload 4, 2) := by decide +kernel
theorem dX11_bears_60 : decode cX11_bears 60 = .ok (.invokestatic 197, 3) := by decide +kernel
theorem dX11_bears_63 : decode cX11_bears 63 = .ok (.if_icmp .le 7, 3) := by decide +kernel
theorem dX11_bears_66 : decode cX11_bears 66 = .ok (.iconst 1, 1) := by decide +kernel
theorem dX11_bears_67 : decode cX11_bears 67 = .ok (.goto 4, 3) := by decide +kernel
theorem dX11_bears_70 : decode cX11_bears 70 = .ok (.iconst 0, 1) := by decide +kernel
theorem dX11_bears_71 : decode cX11_bears 71 = .ok (.istore 6, 2) := by decide +kernel
theorem dX11_bears_73 : decode cX11_bears 73 = .ok (.iload 6, 2) := by decide +kernel
theorem dX11_bears_75 : decode cX11_bears 75 = .ok (.ifCond .eq 18, 3) := by decide +kernel
theorem dX11_bears_78 : decode cX11_bears 78 = .ok (.aload_n 0, 1) := by decide +kernel
theorem dX11_bears_79 : decode cX11_bears 79 = .ok (.iload 5, 2) := by decide +kernel
theorem dX11_bears_81 : decode cX11_bears 81 = .ok (.iload_n 2, 1) := by decide +kernel
theorem dX11_bears_82 : decode cX11_bears 82 = .ok (.invokevirtual 293, 3) := by decide +kernel
theorem dX11_bears_85 : decode cX11_bears 85 = .ok (.ifCond .eq 8, 3) := by decide +kernel
theorem dX11_bears_88 : decode cX11_bears 88 = .ok (.iload 5, 2) := by decide +kernel
theorem dX11_bears_90 : decode cX11_bears 90 = .ok (.goto 5, 3) := by decide +kernel
theorem dX11_bears_93 : decode cX11_bears 93 = .ok (.iload 4, 2) := by decide +kernel
theorem dX11_bears_95 : decode cX11_bears 95 = .ok (.istore 4, 2) := by decide +kernel
theorem dX11_bears_97 : decode cX11_bears 97 = .ok (.iinc 5 1, 3) := by decide +kernel
theorem dX11_bears_100 : decode cX11_bears 100 = .ok (.goto (-62), 3) := by decide +kernel
theorem dX11_bears_103 : decode cX11_bears 103 = .ok (.iload_n 3, 1) := by decide +kernel
theorem dX11_bears_104 : decode cX11_bears 104 = .ok (.ifCond .ne 11, 3) := by decide +kernel
theorem dX11_bears_107 : decode cX11_bears 107 = .ok (.iload 4, 2) := by decide +kernel
theorem dX11_bears_109 : decode cX11_bears 109 = .ok (.invokestatic 197, 3) := by decide +kernel
theorem dX11_bears_112 : decode cX11_bears 112 = .ok (.goto 5, 3) := by decide +kernel
theorem dX11_bears_115 : decode cX11_bears 115 = .ok (.iload 4, 2) := by decide +kernel
theorem dX11_bears_117 : decode cX11_bears 117 = .ok (.ireturn, 1) := by decide +kernel
theorem dX11_canSing_0 : decode cX11_canSing 0 = .ok (.iload_n 1, 1) := by decide +kernel
theorem dX11_canSing_1 : decode cX11_canSing 1 = .ok (.iload_n 3, 1) := by decide +kernel
theorem dX11_canSing_2 : decode cX11_canSing 2 = .ok (.invokestatic 203, 3) := by decide +kernel
theorem dX11_canSing_5 : decode cX11_canSing 5 = .ok (.ifCond .eq 20, 3) := by decide +kernel
theorem dX11_canSing_8 : decode cX11_canSing 8 = .ok (.aload_n 0, 1) := by decide +kernel
theorem dX11_canSing_9 : decode cX11_canSing 9 = .ok (.getfield 19, 3) := by decide +kernel
theorem dX11_canSing_12 : decode cX11_canSing 12 = .ok (.iload_n 3, 1) := by decide +kernel
theorem dX11_canSing_13 : decode cX11_canSing 13 = .ok (.iaload, 1) := by decide +kernel
theorem dX11_canSing_14 : decode cX11_canSing 14 = .ok (.iload_n 2, 1) := by decide +kernel
theorem dX11_canSing_15 : decode cX11_canSing 15 = .ok (.invokestatic 203, 3) := by decide +kernel
theorem dX11_canSing_18 : decode cX11_canSing 18 = .ok (.ifCond .eq 7, 3) := by decide +kernel
theorem dX11_canSing_21 : decode cX11_canSing 21 = .ok (.iconst 1, 1) := by decide +kernel
theorem dX11_canSing_22 : decode cX11_canSing 22 = .ok (.goto 4, 3) := by decide +kernel
theorem dX11_canSing_25 : decode cX11_canSing 25 = .ok (.iconst 0, 1) := by decide +kernel
theorem dX11_canSing_26 : decode cX11_canSing 26 = .ok (.ireturn, 1) := by decide +kernel
theorem dX11_leastAt_0 : decode cX11_leastAt 0 = .ok (.ldc_w 296, 3) := by decide +kernel
theorem dX11_leastAt_3 : decode cX11_leastAt 3 = .ok (.istore 4, 2) := by decide +kernel
theorem dX11_leastAt_5 : decode cX11_leastAt 5 = .ok (.iconst 0, 1) := by decide +kernel
theorem dX11_leastAt_6 : decode cX11_leastAt 6 = .ok (.istore 5, 2) := by decide +kernel
theorem dX11_leastAt_8 : decode cX11_leastAt 8 = .ok (.iload 5, 2) := by decide +kernel
theorem dX11_leastAt_10 : decode cX11_leastAt 10 = .ok (.aload_n 0, 1) := by decide +kernel
theorem dX11_leastAt_11 : decode cX11_leastAt 11 = .ok (.getfield 81, 3) := by decide +kernel
theorem dX11_leastAt_14 : decode cX11_leastAt 14 = .ok (.if_icmp .ge 72, 3) := by decide +kernel
theorem dX11_leastAt_17 : decode cX11_leastAt 17 = .ok (.aload_n 0, 1) := by decide +kernel
theorem dX11_leastAt_18 : decode cX11_leastAt 18 = .ok (.iload_n 1, 1) := by decide +kernel
theorem dX11_leastAt_19 : decode cX11_leastAt 19 = .ok (.iload_n 2, 1) := by decide +kernel
theorem dX11_leastAt_20 : decode cX11_leastAt 20 = .ok (.iload 5, 2) := by decide +kernel
theorem dX11_leastAt_22 : decode cX11_leastAt 22 = .ok (.invokevirtual 297, 3) := by decide +kernel
theorem dX11_leastAt_25 : decode cX11_leastAt 25 = .ok (.ifCond .eq 34, 3) := by decide +kernel
theorem dX11_leastAt_28 : decode cX11_leastAt 28 = .ok (.aload_n 0, 1) := by decide +kernel
theorem dX11_leastAt_29 : decode cX11_leastAt 29 = .ok (.getfield 56, 3) := by decide +kernel
theorem dX11_leastAt_32 : decode cX11_leastAt 32 = .ok (.bipush 7, 2) := by decide +kernel
theorem dX11_leastAt_34 : decode cX11_leastAt 34 = .ok (.iload_n 2, 1) := by decide +kernel
theorem dX11_leastAt_35 : decode cX11_leastAt 35 = .ok (.imul, 1) := by decide +kernel
theorem dX11_leastAt_36 : decode cX11_leastAt 36 = .ok (.iload 5, 2) := by decide +kernel
theorem dX11_leastAt_38 : decode cX11_leastAt 38 = .ok (.iadd, 1) := by decide +kernel
theorem dX11_leastAt_39 : decode cX11_leastAt 39 = .ok (.iaload, 1) := by decide +kernel
theorem dX11_leastAt_40 : decode cX11_leastAt 40 = .ok (.iload_n 3, 1) := by decide +kernel
theorem dX11_leastAt_41 : decode cX11_leastAt 41 = .ok (.ifCond .lt 13, 3) := by decide +kernel
theorem dX11_leastAt_44 : decode cX11_leastAt 44 = .ok (.iload 5, 2) := by decide +kernel
theorem dX11_leastAt_46 : decode cX11_leastAt 46 = .ok (.iload_n 3, 1) := by decide +kernel
theorem dX11_leastAt_47 : decode cX11_leastAt 47 = .ok (.if_icmp .eq 7, 3) := by decide +kernel
theorem dX11_leastAt_50 : decode cX11_leastAt 50 = .ok (.iconst 1, 1) := by decide +kernel
theorem dX11_leastAt_51 : decode cX11_leastAt 51 = .ok (.goto 4, 3) := by decide +kernel
theorem dX11_leastAt_54 : decode cX11_leastAt 54 = .ok (.iconst 0, 1) := by decide +kernel
theorem dX11_leastAt_55 : decode cX11_leastAt 55 = .ok (.iadd, 1) := by decide +kernel
theorem dX11_leastAt_56 : decode cX11_leastAt 56 = .ok (.goto 6, 3) := by decide +kernel
theorem dX11_leastAt_59 : decode cX11_leastAt 59 = .ok (.ldc_w 296, 3) := by decide +kernel
theorem dX11_leastAt_62 : decode cX11_leastAt 62 = .ok (.istore 6, 2) := by decide +kernel
theorem dX11_leastAt_64 : decode cX11_leastAt 64 = .ok (.iload 6, 2) := by decide +kernel
theorem dX11_leastAt_66 : decode cX11_leastAt 66 = .ok (.iload 4, 2) := by decide +kernel
theorem dX11_leastAt_68 : decode cX11_leastAt 68 = .ok (.if_icmp .ge 8, 3) := by decide +kernel
theorem dX11_leastAt_71 : decode cX11_leastAt 71 = .ok (.iload 6, 2) := by decide +kernel
theorem dX11_leastAt_73 : decode cX11_leastAt 73 = .ok (.goto 5, 3) := by decide +kernel
theorem dX11_leastAt_76 : decode cX11_leastAt 76 = .ok (.iload 4, 2) := by decide +kernel
theorem dX11_leastAt_78 : decode cX11_leastAt 78 = .ok (.istore 4, 2) := by decide +kernel
theorem dX11_leastAt_80 : decode cX11_leastAt 80 = .ok (.iinc 5 1, 3) := by decide +kernel
theorem dX11_leastAt_83 : decode cX11_leastAt 83 = .ok (.goto (-75), 3) := by decide +kernel
theorem dX11_leastAt_86 : decode cX11_leastAt 86 = .ok (.iload 4, 2) := by decide +kernel
theorem dX11_leastAt_88 : decode cX11_leastAt 88 = .ok (.ireturn, 1) := by decide +kernel
theorem dX11_findChanges_0 : decode cX11_findChanges 0 = .ok (.aload_n 0, 1) := by decide +kernel
theorem dX11_findChanges_1 : decode cX11_findChanges 1 = .ok (.getfield 150, 3) := by decide +kernel
theorem dX11_findChanges_4 : decode cX11_findChanges 4 = .ok (.iconst 1, 1) := by decide +kernel
theorem dX11_findChanges_5 : decode cX11_findChanges 5 = .ok (.isub, 1) := by decide +kernel
theorem dX11_findChanges_6 : decode cX11_findChanges 6 = .ok (.istore_n 2, 1) := by decide +kernel
theorem dX11_findChanges_7 : decode cX11_findChanges 7 = .ok (.iload_n 2, 1) := by decide +kernel
theorem dX11_findChanges_8 : decode cX11_findChanges 8 = .ok (.ifCond .lt 59, 3) := by decide +kernel
theorem dX11_findChanges_11 : decode cX11_findChanges 11 = .ok (.iconst 0, 1) := by decide +kernel
theorem dX11_findChanges_12 : decode cX11_findChanges 12 = .ok (.istore_n 3, 1) := by decide +kernel
theorem dX11_findChanges_13 : decode cX11_findChanges 13 = .ok (.iload_n 3, 1) := by decide +kernel
theorem dX11_findChanges_14 : decode cX11_findChanges 14 = .ok (.aload_n 0, 1) := by decide +kernel
theorem dX11_findChanges_15 : decode cX11_findChanges 15 = .ok (.getfield 81, 3) := by decide +kernel
theorem dX11_findChanges_18 : decode cX11_findChanges 18 = .ok (.if_icmp .ge 43, 3) := by decide +kernel
theorem dX11_findChanges_21 : decode cX11_findChanges 21 = .ok (.aload_n 0, 1) := by decide +kernel
theorem dX11_findChanges_22 : decode cX11_findChanges 22 = .ok (.getfield 56, 3) := by decide +kernel
theorem dX11_findChanges_25 : decode cX11_findChanges 25 = .ok (.bipush 7, 2) := by decide +kernel
theorem dX11_findChanges_27 : decode cX11_findChanges 27 = .ok (.iload_n 2, 1) := by decide +kernel
theorem dX11_findChanges_28 : decode cX11_findChanges 28 = .ok (.imul, 1) := by decide +kernel
theorem dX11_findChanges_29 : decode cX11_findChanges 29 = .ok (.iload_n 3, 1) := by decide +kernel
theorem dX11_findChanges_30 : decode cX11_findChanges 30 = .ok (.iadd, 1) := by decide +kernel
theorem dX11_findChanges_31 : decode cX11_findChanges 31 = .ok (.iload_n 2, 1) := by decide +kernel
theorem dX11_findChanges_32 : decode cX11_findChanges 32 = .ok (.aload_n 0, 1) := by decide +kernel
theorem dX11_findChanges_33 : decode cX11_findChanges 33 = .ok (.getfield 150, 3) := by decide +kernel
theorem dX11_findChanges_36 : decode cX11_findChanges 36 = .ok (.iconst 1, 1) := by decide +kernel
theorem dX11_findChanges_37 : decode cX11_findChanges 37 = .ok (.isub, 1) := by decide +kernel
theorem dX11_findChanges_38 : decode cX11_findChanges 38 = .ok (.if_icmp .ne 7, 3) := by decide +kernel
theorem dX11_findChanges_41 : decode cX11_findChanges 41 = .ok (.iconst 0, 1) := by decide +kernel
theorem dX11_findChanges_42 : decode cX11_findChanges 42 = .ok (.goto 12, 3) := by decide +kernel
theorem dX11_findChanges_45 : decode cX11_findChanges 45 = .ok (.aload_n 0, 1) := by decide +kernel
theorem dX11_findChanges_46 : decode cX11_findChanges 46 = .ok (.iload_n 1, 1) := by decide +kernel
theorem dX11_findChanges_47 : decode cX11_findChanges 47 = .ok (.iload_n 2, 1) := by decide +kernel
theorem dX11_findChanges_48 : decode cX11_findChanges 48 = .ok (.iconst 1, 1) := by decide +kernel
theorem dX11_findChanges_49 : decode cX11_findChanges 49 = .ok (.iadd, 1) := by decide +kernel
theorem dX11_findChanges_50 : decode cX11_findChanges 50 = .ok (.iload_n 3, 1) := by decide +kernel
theorem dX11_findChanges_51 : decode cX11_findChanges 51 = .ok (.invokevirtual 301, 3) := by decide +kernel
theorem dX11_findChanges_54 : decode cX11_findChanges 54 = .ok (.iastore, 1) := by decide +kernel
theorem dX11_findChanges_55 : decode cX11_findChanges 55 = .ok (.iinc 3 1, 3) := by decide +kernel
theorem dX11_findChanges_58 : decode cX11_findChanges 58 = .ok (.goto (-45), 3) := by decide +kernel
theorem dX11_findChanges_61 : decode cX11_findChanges 61 = .ok (.iinc 2 (-1), 3) := by decide +kernel
theorem dX11_findChanges_64 : decode cX11_findChanges 64 = .ok (.goto (-57), 3) := by decide +kernel
theorem dX11_findChanges_67 : decode cX11_findChanges 67 = .ok (.return_, 1) := by decide +kernel
theorem dX11_shared_0 : decode cX11_shared 0 = .ok (.aload_n 0, 1) := by decide +kernel
theorem dX11_shared_1 : decode cX11_shared 1 = .ok (.iload_n 1, 1) := by decide +kernel
theorem dX11_shared_2 : decode cX11_shared 2 = .ok (.invokevirtual 290, 3) := by decide +kernel
theorem dX11_shared_5 : decode cX11_shared 5 = .ok (.ifCond .ne 6, 3) := by decide +kernel
theorem dX11_shared_8 : decode cX11_shared 8 = .ok (.ldc 231, 2) := by decide +kernel
theorem dX11_shared_10 : decode cX11_shared 10 = .ok (.ireturn, 1) := by decide +kernel
theorem dX11_shared_11 : decode cX11_shared 11 = .ok (.iload_n 2, 1) := by decide +kernel
theorem dX11_shared_12 : decode cX11_shared 12 = .ok (.i2l, 1) := by decide +kernel
theorem dX11_shared_13 : decode cX11_shared 13 = .ok (.ldc2_w 305, 3) := by decide +kernel
theorem dX11_shared_16 : decode cX11_shared 16 = .ok (.aload_n 0, 1) := by decide +kernel
theorem dX11_shared_17 : decode cX11_shared 17 = .ok (.getfield 150, 3) := by decide +kernel
theorem dX11_shared_20 : decode cX11_shared 20 = .ok (.iconst 1, 1) := by decide +kernel
theorem dX11_shared_21 : decode cX11_shared 21 = .ok (.isub, 1) := by decide +kernel
theorem dX11_shared_22 : decode cX11_shared 22 = .ok (.i2l, 1) := by decide +kernel
theorem dX11_shared_23 : decode cX11_shared 23 = .ok (.invokestatic 84, 3) := by decide +kernel
theorem dX11_shared_26 : decode cX11_shared 26 = .ok (.ifCond .ne 6, 3) := by decide +kernel
theorem dX11_shared_29 : decode cX11_shared 29 = .ok (.ldc 93, 2) := by decide +kernel
theorem dX11_shared_31 : decode cX11_shared 31 = .ok (.ireturn, 1) := by decide +kernel
theorem dX11_shared_32 : decode cX11_shared 32 = .ok (.aload_n 0, 1) := by decide +kernel
theorem dX11_shared_33 : decode cX11_shared 33 = .ok (.getfield 88, 3) := by decide +kernel
theorem dX11_shared_36 : decode cX11_shared 36 = .ok (.ifCond .ne 6, 3) := by decide +kernel
theorem dX11_shared_39 : decode cX11_shared 39 = .ok (.ldc 245, 2) := by decide +kernel
theorem dX11_shared_41 : decode cX11_shared 41 = .ok (.ireturn, 1) := by decide +kernel
theorem dX11_shared_42 : decode cX11_shared 42 = .ok (.aload_n 0, 1) := by decide +kernel
theorem dX11_shared_43 : decode cX11_shared 43 = .ok (.iload_n 1, 1) := by decide +kernel
theorem dX11_shared_44 : decode cX11_shared 44 = .ok (.invokevirtual 307, 3) := by decide +kernel
theorem dX11_shared_47 : decode cX11_shared 47 = .ok (.aload_n 0, 1) := by decide +kernel
theorem dX11_shared_48 : decode cX11_shared 48 = .ok (.iload_n 1, 1) := by decide +kernel
theorem dX11_shared_49 : decode cX11_shared 49 = .ok (.iconst 0, 1) := by decide +kernel
theorem dX11_shared_50 : decode cX11_shared 50 = .ok (.iconst (-1), 1) := by decide +kernel
theorem dX11_shared_51 : decode cX11_shared 51 = .ok (.invokevirtual 301, 3) := by decide +kernel
theorem dX11_shared_54 : decode cX11_shared 54 = .ok (.istore_n 3, 1) := by decide +kernel
theorem dX11_shared_55 : decode cX11_shared 55 = .ok (.iload_n 3, 1) := by decide +kernel
theorem dX11_shared_56 : decode cX11_shared 56 = .ok (.ldc_w 296, 3) := by decide +kernel
theorem dX11_shared_59 : decode cX11_shared 59 = .ok (.if_icmp .ge 8, 3) := by decide +kernel
theorem dX11_shared_62 : decode cX11_shared 62 = .ok (.iload_n 2, 1) := by decide +kernel
theorem dX11_shared_63 : decode cX11_shared 63 = .ok (.iconst (-1), 1) := by decide +kernel
theorem dX11_shared_64 : decode cX11_shared 64 = .ok (.if_icmp .ne 16, 3) := by decide +kernel
theorem dX11_shared_67 : decode cX11_shared 67 = .ok (.iload_n 3, 1) := by decide +kernel
theorem dX11_shared_68 : decode cX11_shared 68 = .ok (.ldc_w 296, 3) := by decide +kernel
theorem dX11_shared_71 : decode cX11_shared 71 = .ok (.if_icmp .lt 7, 3) := by decide +kernel
theorem dX11_shared_74 : decode cX11_shared 74 = .ok (.iconst (-1), 1) := by decide +kernel
theorem dX11_shared_75 : decode cX11_shared 75 = .ok (.goto 4, 3) := by decide +kernel
theorem dX11_shared_78 : decode cX11_shared 78 = .ok (.iload_n 3, 1) := by decide +kernel
theorem dX11_shared_79 : decode cX11_shared 79 = .ok (.ireturn, 1) := by decide +kernel
theorem dX11_shared_80 : decode cX11_shared 80 = .ok (.iconst (-1), 1) := by decide +kernel
theorem dX11_shared_81 : decode cX11_shared 81 = .ok (.istore 4, 2) := by decide +kernel
theorem dX11_shared_83 : decode cX11_shared 83 = .ok (.iconst 0, 1) := by decide +kernel
theorem dX11_shared_84 : decode cX11_shared 84 = .ok (.istore 5, 2) := by decide +kernel
theorem dX11_shared_86 : decode cX11_shared 86 = .ok (.iload 5, 2) := by decide +kernel
theorem dX11_shared_88 : decode cX11_shared 88 = .ok (.iload_n 2, 1) := by decide +kernel
theorem dX11_shared_89 : decode cX11_shared 89 = .ok (.if_icmp .gt 112, 3) := by decide +kernel
theorem dX11_shared_92 : decode cX11_shared 92 = .ok (.iload 4, 2) := by decide +kernel
theorem dX11_shared_94 : decode cX11_shared 94 = .ok (.istore 6, 2) := by decide +kernel
theorem dX11_shared_96 : decode cX11_shared 96 = .ok (.aload_n 0, 1) := by decide +kernel
theorem dX11_shared_97 : decode cX11_shared 97 = .ok (.iload_n 1, 1) := by decide +kernel
theorem dX11_shared_98 : decode cX11_shared 98 = .ok (.iload 5, 2) := by decide +kernel
theorem dX11_shared_100 : decode cX11_shared 100 = .ok (.iload 6, 2) := by decide +kernel
theorem dX11_shared_102 : decode cX11_shared 102 = .ok (.invokevirtual 301, 3) := by decide +kernel
theorem dX11_shared_105 : decode cX11_shared 105 = .ok (.istore 7, 2) := by decide +kernel
theorem dX11_shared_107 : decode cX11_shared 107 = .ok (.aload_n 0, 1) := by decide +kernel
theorem dX11_shared_108 : decode cX11_shared 108 = .ok (.getfield 81, 3) := by decide +kernel
theorem dX11_shared_111 : decode cX11_shared 111 = .ok (.iconst 1, 1) := by decide +kernel
theorem dX11_shared_112 : decode cX11_shared 112 = .ok (.isub, 1) := by decide +kernel
theorem dX11_shared_113 : decode cX11_shared 113 = .ok (.istore 8, 2) := by decide +kernel
theorem dX11_shared_115 : decode cX11_shared 115 = .ok (.iload 8, 2) := by decide +kernel
theorem dX11_shared_117 : decode cX11_shared 117 = .ok (.ifCond .lt 78, 3) := by decide +kernel
theorem dX11_shared_120 : decode cX11_shared 120 = .ok (.aload_n 0, 1) := by decide +kernel
theorem dX11_shared_121 : decode cX11_shared 121 = .ok (.iload_n 1, 1) := by decide +kernel
theorem dX11_shared_122 : decode cX11_shared 122 = .ok (.iload 5, 2) := by decide +kernel
theorem dX11_shared_124 : decode cX11_shared 124 = .ok (.iload 8, 2) := by decide +kernel
theorem dX11_shared_126 : decode cX11_shared 126 = .ok (.invokevirtual 297, 3) := by decide +kernel
theorem dX11_shared_129 : decode cX11_shared 129 = .ok (.ifCond .eq 43, 3) := by decide +kernel
theorem dX11_shared_132 : decode cX11_shared 132 = .ok (.aload_n 0, 1) := by decide +kernel
theorem dX11_shared_133 : decode cX11_shared 133 = .ok (.getfield 56, 3) := by decide +kernel
theorem dX11_shared_136 : decode cX11_shared 136 = .ok (.bipush 7, 2) := by decide +kernel
theorem dX11_shared_138 : decode cX11_shared 138 = .ok (.iload 5, 2) := by decide +kernel
theorem dX11_shared_140 : decode cX11_shared 140 = .ok (.imul, 1) := by decide +kernel
theorem dX11_shared_141 : decode cX11_shared 141 = .ok (.iload 8, 2) := by decide +kernel
theorem dX11_shared_143 : decode cX11_shared 143 = .ok (.iadd, 1) := by decide +kernel
theorem dX11_shared_144 : decode cX11_shared 144 = .ok (.iaload, 1) := by decide +kernel
theorem dX11_shared_145 : decode cX11_shared 145 = .ok (.iload 6, 2) := by decide +kernel
theorem dX11_shared_147 : decode cX11_shared 147 = .ok (.ifCond .lt 14, 3) := by decide +kernel
theorem dX11_shared_150 : decode cX11_shared 150 = .ok (.iload 8, 2) := by decide +kernel
theorem dX11_shared_152 : decode cX11_shared 152 = .ok (.iload 6, 2) := by decide +kernel
theorem dX11_shared_154 : decode cX11_shared 154 = .ok (.if_icmp .eq 7, 3) := by decide +kernel
theorem dX11_shared_157 : decode cX11_shared 157 = .ok (.iconst 1, 1) := by decide +kernel
theorem dX11_shared_158 : decode cX11_shared 158 = .ok (.goto 4, 3) := by decide +kernel
theorem dX11_shared_161 : decode cX11_shared 161 = .ok (.iconst 0, 1) := by decide +kernel
theorem dX11_shared_162 : decode cX11_shared 162 = .ok (.iadd, 1) := by decide +kernel
theorem dX11_shared_163 : decode cX11_shared 163 = .ok (.iload 7, 2) := by decide +kernel
theorem dX11_shared_165 : decode cX11_shared 165 = .ok (.if_icmp .ne 7, 3) := by decide +kernel
theorem dX11_shared_168 : decode cX11_shared 168 = .ok (.iconst 1, 1) := by decide +kernel
theorem dX11_shared_169 : decode cX11_shared 169 = .ok (.goto 4, 3) := by decide +kernel
theorem dX11_shared_172 : decode cX11_shared 172 = .ok (.iconst 0, 1) := by decide +kernel
theorem dX11_shared_173 : decode cX11_shared 173 = .ok (.istore 9, 2) := by decide +kernel
theorem dX11_shared_175 : decode cX11_shared 175 = .ok (.iload 9, 2) := by decide +kernel
theorem dX11_shared_177 : decode cX11_shared 177 = .ok (.ifCond .eq 8, 3) := by decide +kernel
theorem dX11_shared_180 : decode cX11_shared 180 = .ok (.iload 8, 2) := by decide +kernel
theorem dX11_shared_182 : decode cX11_shared 182 = .ok (.goto 5, 3) := by decide +kernel
theorem dX11_shared_185 : decode cX11_shared 185 = .ok (.iload 4, 2) := by decide +kernel
theorem dX11_shared_187 : decode cX11_shared 187 = .ok (.istore 4, 2) := by decide +kernel
theorem dX11_shared_189 : decode cX11_shared 189 = .ok (.iinc 8 (-1), 3) := by decide +kernel
theorem dX11_shared_192 : decode cX11_shared 192 = .ok (.goto (-77), 3) := by decide +kernel
theorem dX11_shared_195 : decode cX11_shared 195 = .ok (.iinc 5 1, 3) := by decide +kernel
theorem dX11_shared_198 : decode cX11_shared 198 = .ok (.goto (-112), 3) := by decide +kernel
theorem dX11_shared_201 : decode cX11_shared 201 = .ok (.iload 4, 2) := by decide +kernel
theorem dX11_shared_203 : decode cX11_shared 203 = .ok (.ireturn, 1) := by decide +kernel
theorem dX11_owedByWay_0 : decode cX11_owedByWay 0 = .ok (.iconst 0, 1) := by decide +kernel
theorem dX11_owedByWay_1 : decode cX11_owedByWay 1 = .ok (.istore_n 3, 1) := by decide +kernel
theorem dX11_owedByWay_2 : decode cX11_owedByWay 2 = .ok (.iconst 0, 1) := by decide +kernel
theorem dX11_owedByWay_3 : decode cX11_owedByWay 3 = .ok (.istore 4, 2) := by decide +kernel
theorem dX11_owedByWay_5 : decode cX11_owedByWay 5 = .ok (.iload 4, 2) := by decide +kernel
theorem dX11_owedByWay_7 : decode cX11_owedByWay 7 = .ok (.aload_n 0, 1) := by decide +kernel
theorem dX11_owedByWay_8 : decode cX11_owedByWay 8 = .ok (.getfield 88, 3) := by decide +kernel
theorem dX11_owedByWay_11 : decode cX11_owedByWay 11 = .ok (.if_icmp .ge 88, 3) := by decide +kernel
theorem dX11_owedByWay_14 : decode cX11_owedByWay 14 = .ok (.iconst 0, 1) := by decide +kernel
theorem dX11_owedByWay_15 : decode cX11_owedByWay 15 = .ok (.istore 5, 2) := by decide +kernel
theorem dX11_owedByWay_17 : decode cX11_owedByWay 17 = .ok (.iload_n 1, 1) := by decide +kernel
theorem dX11_owedByWay_18 : decode cX11_owedByWay 18 = .ok (.istore 6, 2) := by decide +kernel
theorem dX11_owedByWay_20 : decode cX11_owedByWay 20 = .ok (.aload_n 0, 1) := by decide +kernel
theorem dX11_owedByWay_21 : decode cX11_owedByWay 21 = .ok (.getfield 81, 3) := by decide +kernel
theorem dX11_owedByWay_24 : decode cX11_owedByWay 24 = .ok (.iconst 1, 1) := by decide +kernel
theorem dX11_owedByWay_25 : decode cX11_owedByWay 25 = .ok (.isub, 1) := by decide +kernel
theorem dX11_owedByWay_26 : decode cX11_owedByWay 26 = .ok (.istore 7, 2) := by decide +kernel
theorem dX11_owedByWay_28 : decode cX11_owedByWay 28 = .ok (.iload 7, 2) := by decide +kernel
theorem dX11_owedByWay_30 : decode cX11_owedByWay 30 = .ok (.ifCond .lt 52, 3) := by decide +kernel
theorem dX11_owedByWay_33 : decode cX11_owedByWay 33 = .ok (.iload_n 2, 1) := by decide +kernel
theorem dX11_owedByWay_34 : decode cX11_owedByWay 34 = .ok (.iload 7, 2) := by decide +kernel
theorem dX11_owedByWay_36 : decode cX11_owedByWay 36 = .ok (.invokestatic 203, 3) := by decide +kernel
theorem dX11_owedByWay_39 : decode cX11_owedByWay 39 = .ok (.ifCond .eq 37, 3) := by decide +kernel
theorem dX11_owedByWay_42 : decode cX11_owedByWay 42 = .ok (.iload 5, 2) := by decide +kernel
theorem dX11_owedByWay_44 : decode cX11_owedByWay 44 = .ok (.iload 6, 2) := by decide +kernel
theorem dX11_owedByWay_46 : decode cX11_owedByWay 46 = .ok (.aload_n 0, 1) := by decide +kernel
theorem dX11_owedByWay_47 : decode cX11_owedByWay 47 = .ok (.getfield 88, 3) := by decide +kernel
theorem dX11_owedByWay_50 : decode cX11_owedByWay 50 = .ok (.irem, 1) := by decide +kernel
theorem dX11_owedByWay_51 : decode cX11_owedByWay 51 = .ok (.iload 4, 2) := by decide +kernel
theorem dX11_owedByWay_53 : decode cX11_owedByWay 53 = .ok (.if_icmp .ne 10, 3) := by decide +kernel
theorem dX11_owedByWay_56 : decode cX11_owedByWay 56 = .ok (.iconst 1, 1) := by decide +kernel
theorem dX11_owedByWay_57 : decode cX11_owedByWay 57 = .ok (.iload 7, 2) := by decide +kernel
theorem dX11_owedByWay_59 : decode cX11_owedByWay 59 = .ok (.ishl, 1) := by decide +kernel
theorem dX11_owedByWay_60 : decode cX11_owedByWay 60 = .ok (.goto 4, 3) := by decide +kernel
theorem dX11_owedByWay_63 : decode cX11_owedByWay 63 = .ok (.iconst 0, 1) := by decide +kernel
theorem dX11_owedByWay_64 : decode cX11_owedByWay 64 = .ok (.ior, 1) := by decide +kernel
theorem dX11_owedByWay_65 : decode cX11_owedByWay 65 = .ok (.istore 5, 2) := by decide +kernel
theorem dX11_owedByWay_67 : decode cX11_owedByWay 67 = .ok (.iload 6, 2) := by decide +kernel
theorem dX11_owedByWay_69 : decode cX11_owedByWay 69 = .ok (.aload_n 0, 1) := by decide +kernel
theorem dX11_owedByWay_70 : decode cX11_owedByWay 70 = .ok (.getfield 88, 3) := by decide +kernel
theorem dX11_owedByWay_73 : decode cX11_owedByWay 73 = .ok (.idiv, 1) := by decide +kernel
theorem dX11_owedByWay_74 : decode cX11_owedByWay 74 = .ok (.istore 6, 2) := by decide +kernel
theorem dX11_owedByWay_76 : decode cX11_owedByWay 76 = .ok (.iinc 7 (-1), 3) := by decide +kernel
theorem dX11_owedByWay_79 : decode cX11_owedByWay 79 = .ok (.goto (-51), 3) := by decide +kernel
theorem dX11_owedByWay_82 : decode cX11_owedByWay 82 = .ok (.iload_n 3, 1) := by decide +kernel
theorem dX11_owedByWay_83 : decode cX11_owedByWay 83 = .ok (.aload_n 0, 1) := by decide +kernel
theorem dX11_owedByWay_84 : decode cX11_owedByWay 84 = .ok (.iload 5, 2) := by decide +kernel
theorem dX11_owedByWay_86 : decode cX11_owedByWay 86 = .ok (.iload 4, 2) := by decide +kernel
theorem dX11_owedByWay_88 : decode cX11_owedByWay 88 = .ok (.invokevirtual 310, 3) := by decide +kernel
theorem dX11_owedByWay_91 : decode cX11_owedByWay 91 = .ok (.iadd, 1) := by decide +kernel
theorem dX11_owedByWay_92 : decode cX11_owedByWay 92 = .ok (.istore_n 3, 1) := by decide +kernel
theorem dX11_owedByWay_93 : decode cX11_owedByWay 93 = .ok (.iinc 4 1, 3) := by decide +kernel
theorem dX11_owedByWay_96 : decode cX11_owedByWay 96 = .ok (.goto (-91), 3) := by decide +kernel
theorem dX11_owedByWay_99 : decode cX11_owedByWay 99 = .ok (.iload_n 3, 1) := by decide +kernel
theorem dX11_owedByWay_100 : decode cX11_owedByWay 100 = .ok (.ireturn, 1) := by decide +kernel
theorem dX11_groups_0 : decode cX11_groups 0 = .ok (.aload_n 0, 1) := by decide +kernel
theorem dX11_groups_1 : decode cX11_groups 1 = .ok (.iload_n 1, 1) := by decide +kernel
theorem dX11_groups_2 : decode cX11_groups 2 = .ok (.invokevirtual 290, 3) := by decide +kernel
theorem dX11_groups_5 : decode cX11_groups 5 = .ok (.ifCond .eq 16, 3) := by decide +kernel
theorem dX11_groups_8 : decode cX11_groups 8 = .ok (.iload_n 2, 1) := by decide +kernel
theorem dX11_groups_9 : decode cX11_groups 9 = .ok (.iconst (-1), 1) := by decide +kernel
theorem dX11_groups_10 : decode cX11_groups 10 = .ok (.if_icmp .eq 14, 3) := by decide +kernel
theorem dX11_groups_13 : decode cX11_groups 13 = .ok (.aload_n 0, 1) := by decide +kernel
theorem dX11_groups_14 : decode cX11_groups 14 = .ok (.iload_n 2, 1) := by decide +kernel
theorem dX11_groups_15 : decode cX11_groups 15 = .ok (.invokevirtual 228, 3) := by decide +kernel
theorem dX11_groups_18 : decode cX11_groups 18 = .ok (.ifCond .ne 6, 3) := by decide +kernel
theorem dX11_groups_21 : decode cX11_groups 21 = .ok (.ldc 231, 2) := by decide +kernel
theorem dX11_groups_23 : decode cX11_groups 23 = .ok (.ireturn, 1) := by decide +kernel
theorem dX11_groups_24 : decode cX11_groups 24 = .ok (.aload_n 0, 1) := by decide +kernel
theorem dX11_groups_25 : decode cX11_groups 25 = .ok (.getfield 88, 3) := by decide +kernel
theorem dX11_groups_28 : decode cX11_groups 28 = .ok (.ifCond .ne 6, 3) := by decide +kernel
theorem dX11_groups_31 : decode cX11_groups 31 = .ok (.ldc 245, 2) := by decide +kernel
theorem dX11_groups_33 : decode cX11_groups 33 = .ok (.ireturn, 1) := by decide +kernel
theorem dX11_groups_34 : decode cX11_groups 34 = .ok (.iconst 1, 1) := by decide +kernel
theorem dX11_groups_35 : decode cX11_groups 35 = .ok (.istore_n 3, 1) := by decide +kernel
theorem dX11_groups_36 : decode cX11_groups 36 = .ok (.iconst 0, 1) := by decide +kernel
theorem dX11_groups_37 : decode cX11_groups 37 = .ok (.istore 4, 2) := by decide +kernel
theorem dX11_groups_39 : decode cX11_groups 39 = .ok (.iload 4, 2) := by decide +kernel
theorem dX11_groups_41 : decode cX11_groups 41 = .ok (.iload_n 1, 1) := by decide +kernel
theorem dX11_groups_42 : decode cX11_groups 42 = .ok (.invokestatic 197, 3) := by decide +kernel
theorem dX11_groups_45 : decode cX11_groups 45 = .ok (.if_icmp .ge 16, 3) := by decide +kernel
theorem dX11_groups_48 : decode cX11_groups 48 = .ok (.iload_n 3, 1) := by decide +kernel
theorem dX11_groups_49 : decode cX11_groups 49 = .ok (.aload_n 0, 1) := by decide +kernel
theorem dX11_groups_50 : decode cX11_groups 50 = .ok (.getfield 88, 3) := by decide +kernel
theorem dX11_groups_53 : decode cX11_groups 53 = .ok (.imul, 1) := by decide +kernel
theorem dX11_groups_54 : decode cX11_groups 54 = .ok (.istore_n 3, 1) := by decide +kernel
theorem dX11_groups_55 : decode cX11_groups 55 = .ok (.iinc 4 1, 3) := by decide +kernel
theorem dX11_groups_58 : decode cX11_groups 58 = .ok (.goto (-19), 3) := by decide +kernel
theorem dX11_groups_61 : decode cX11_groups 61 = .ok (.iconst 0, 1) := by decide +kernel
theorem dX11_groups_62 : decode cX11_groups 62 = .ok (.istore 4, 2) := by decide +kernel
theorem dX11_groups_64 : decode cX11_groups 64 = .ok (.ldc_w 296, 3) := by decide +kernel
theorem dX11_groups_67 : decode cX11_groups 67 = .ok (.istore 5, 2) := by decide +kernel
theorem dX11_groups_69 : decode cX11_groups 69 = .ok (.iconst 0, 1) := by decide +kernel
theorem dX11_groups_70 : decode cX11_groups 70 = .ok (.istore 6, 2) := by decide +kernel
theorem dX11_groups_72 : decode cX11_groups 72 = .ok (.iload 6, 2) := by decide +kernel
theorem dX11_groups_74 : decode cX11_groups 74 = .ok (.iload_n 3, 1) := by decide +kernel
theorem dX11_groups_75 : decode cX11_groups 75 = .ok (.if_icmp .ge 50, 3) := by decide +kernel
theorem dX11_groups_78 : decode cX11_groups 78 = .ok (.aload_n 0, 1) := by decide +kernel
theorem dX11_groups_79 : decode cX11_groups 79 = .ok (.iload 6, 2) := by decide +kernel
theorem dX11_groups_81 : decode cX11_groups 81 = .ok (.iload_n 1, 1) := by decide +kernel
theorem dX11_groups_82 : decode cX11_groups 82 = .ok (.invokevirtual 313, 3) := by decide +kernel
theorem dX11_groups_85 : decode cX11_groups 85 = .ok (.istore 7, 2) := by decide +kernel
theorem dX11_groups_87 : decode cX11_groups 87 = .ok (.iload 7, 2) := by decide +kernel
theorem dX11_groups_89 : decode cX11_groups 89 = .ok (.iload 5, 2) := by decide +kernel
theorem dX11_groups_91 : decode cX11_groups 91 = .ok (.if_icmp .ge 8, 3) := by decide +kernel
theorem dX11_groups_94 : decode cX11_groups 94 = .ok (.iload 6, 2) := by decide +kernel
theorem dX11_groups_96 : decode cX11_groups 96 = .ok (.goto 5, 3) := by decide +kernel
theorem dX11_groups_99 : decode cX11_groups 99 = .ok (.iload 4, 2) := by decide +kernel
theorem dX11_groups_101 : decode cX11_groups 101 = .ok (.istore 4, 2) := by decide +kernel
theorem dX11_groups_103 : decode cX11_groups 103 = .ok (.iload 7, 2) := by decide +kernel
theorem dX11_groups_105 : decode cX11_groups 105 = .ok (.iload 5, 2) := by decide +kernel
theorem dX11_groups_107 : decode cX11_groups 107 = .ok (.if_icmp .ge 8, 3) := by decide +kernel
theorem dX11_groups_110 : decode cX11_groups 110 = .ok (.iload 7, 2) := by decide +kernel
theorem dX11_groups_112 : decode cX11_groups 112 = .ok (.goto 5, 3) := by decide +kernel
theorem dX11_groups_115 : decode cX11_groups 115 = .ok (.iload 5, 2) := by decide +kernel
theorem dX11_groups_117 : decode cX11_groups 117 = .ok (.istore 5, 2) := by decide +kernel
theorem dX11_groups_119 : decode cX11_groups 119 = .ok (.iinc 6 1, 3) := by decide +kernel
theorem dX11_groups_122 : decode cX11_groups 122 = .ok (.goto (-50), 3) := by decide +kernel
theorem dX11_groups_125 : decode cX11_groups 125 = .ok (.iload_n 2, 1) := by decide +kernel
theorem dX11_groups_126 : decode cX11_groups 126 = .ok (.iconst (-1), 1) := by decide +kernel
theorem dX11_groups_127 : decode cX11_groups 127 = .ok (.if_icmp .eq 11, 3) := by decide +kernel
theorem dX11_groups_130 : decode cX11_groups 130 = .ok (.iload_n 1, 1) := by decide +kernel
theorem dX11_groups_131 : decode cX11_groups 131 = .ok (.iload_n 2, 1) := by decide +kernel
theorem dX11_groups_132 : decode cX11_groups 132 = .ok (.invokestatic 203, 3) := by decide +kernel
theorem dX11_groups_135 : decode cX11_groups 135 = .ok (.ifCond .ne 15, 3) := by decide +kernel
theorem dX11_groups_138 : decode cX11_groups 138 = .ok (.iload_n 2, 1) := by decide +kernel
theorem dX11_groups_139 : decode cX11_groups 139 = .ok (.iconst (-1), 1) := by decide +kernel
theorem dX11_groups_140 : decode cX11_groups 140 = .ok (.if_icmp .ne 8, 3) := by decide +kernel
theorem dX11_groups_143 : decode cX11_groups 143 = .ok (.iload 5, 2) := by decide +kernel
theorem dX11_groups_145 : decode cX11_groups 145 = .ok (.goto 4, 3) := by decide +kernel
theorem dX11_groups_148 : decode cX11_groups 148 = .ok (.iconst (-1), 1) := by decide +kernel
theorem dX11_groups_149 : decode cX11_groups 149 = .ok (.ireturn, 1) := by decide +kernel
theorem dX11_groups_150 : decode cX11_groups 150 = .ok (.iload 4, 2) := by decide +kernel
theorem dX11_groups_152 : decode cX11_groups 152 = .ok (.istore 6, 2) := by decide +kernel
theorem dX11_groups_154 : decode cX11_groups 154 = .ok (.aload_n 0, 1) := by decide +kernel
theorem dX11_groups_155 : decode cX11_groups 155 = .ok (.getfield 81, 3) := by decide +kernel
theorem dX11_groups_158 : decode cX11_groups 158 = .ok (.iconst 1, 1) := by decide +kernel
theorem dX11_groups_159 : decode cX11_groups 159 = .ok (.isub, 1) := by decide +kernel
theorem dX11_groups_160 : decode cX11_groups 160 = .ok (.istore 7, 2) := by decide +kernel
theorem dX11_groups_162 : decode cX11_groups 162 = .ok (.iload 7, 2) := by decide +kernel
theorem dX11_groups_164 : decode cX11_groups 164 = .ok (.iload_n 2, 1) := by decide +kernel
theorem dX11_groups_165 : decode cX11_groups 165 = .ok (.if_icmp .le 31, 3) := by decide +kernel
theorem dX11_groups_168 : decode cX11_groups 168 = .ok (.iload 6, 2) := by decide +kernel
theorem dX11_groups_170 : decode cX11_groups 170 = .ok (.iload_n 1, 1) := by decide +kernel
theorem dX11_groups_171 : decode cX11_groups 171 = .ok (.iload 7, 2) := by decide +kernel
theorem dX11_groups_173 : decode cX11_groups 173 = .ok (.invokestatic 203, 3) := by decide +kernel
theorem dX11_groups_176 : decode cX11_groups 176 = .ok (.ifCond .eq 10, 3) := by decide +kernel
theorem dX11_groups_179 : decode cX11_groups 179 = .ok (.aload_n 0, 1) := by decide +kernel
theorem dX11_groups_180 : decode cX11_groups 180 = .ok (.getfield 88, 3) := by decide +kernel
theorem dX11_groups_183 : decode cX11_groups 183 = .ok (.goto 4, 3) := by decide +kernel
theorem dX11_groups_186 : decode cX11_groups 186 = .ok (.iconst 1, 1) := by decide +kernel
theorem dX11_groups_187 : decode cX11_groups 187 = .ok (.idiv, 1) := by decide +kernel
theorem dX11_groups_188 : decode cX11_groups 188 = .ok (.istore 6, 2) := by decide +kernel
theorem dX11_groups_190 : decode cX11_groups 190 = .ok (.iinc 7 (-1), 3) := by decide +kernel
theorem dX11_groups_193 : decode cX11_groups 193 = .ok (.goto (-31), 3) := by decide +kernel
theorem dX11_groups_196 : decode cX11_groups 196 = .ok (.iload 6, 2) := by decide +kernel
theorem dX11_groups_198 : decode cX11_groups 198 = .ok (.aload_n 0, 1) := by decide +kernel
theorem dX11_groups_199 : decode cX11_groups 199 = .ok (.getfield 88, 3) := by decide +kernel
theorem dX11_groups_202 : decode cX11_groups 202 = .ok (.irem, 1) := by decide +kernel
theorem dX11_groups_203 : decode cX11_groups 203 = .ok (.ireturn, 1) := by decide +kernel
theorem dX11_rates_0 : decode cX11_rates 0 = .ok (.iload_n 1, 1) := by decide +kernel
theorem dX11_rates_1 : decode cX11_rates 1 = .ok (.i2l, 1) := by decide +kernel
theorem dX11_rates_2 : decode cX11_rates 2 = .ok (.lconst 0, 1) := by decide +kernel
theorem dX11_rates_3 : decode cX11_rates 3 = .ok (.ldc2_w 316, 3) := by decide +kernel
theorem dX11_rates_6 : decode cX11_rates 6 = .ok (.invokestatic 84, 3) := by decide +kernel
theorem dX11_rates_9 : decode cX11_rates 9 = .ok (.ifCond .ne 6, 3) := by decide +kernel
theorem dX11_rates_12 : decode cX11_rates 12 = .ok (.ldc 93, 2) := by decide +kernel
theorem dX11_rates_14 : decode cX11_rates 14 = .ok (.ireturn, 1) := by decide +kernel
theorem dX11_rates_15 : decode cX11_rates 15 = .ok (.iconst 1, 1) := by decide +kernel
theorem dX11_rates_16 : decode cX11_rates 16 = .ok (.istore_n 2, 1) := by decide +kernel
theorem dX11_rates_17 : decode cX11_rates 17 = .ok (.iload_n 2, 1) := by decide +kernel
theorem dX11_rates_18 : decode cX11_rates 18 = .ok (.bipush 9, 2) := by decide +kernel
theorem dX11_rates_20 : decode cX11_rates 20 = .ok (.if_icmp .gt 108, 3) := by decide +kernel
theorem dX11_rates_23 : decode cX11_rates 23 = .ok (.iconst 0, 1) := by decide +kernel
theorem dX11_rates_24 : decode cX11_rates 24 = .ok (.istore_n 3, 1) := by decide +kernel
theorem dX11_rates_25 : decode cX11_rates 25 = .ok (.iconst 0, 1) := by decide +kernel
theorem dX11_rates_26 : decode cX11_rates 26 = .ok (.istore 4, 2) := by decide +kernel
theorem dX11_rates_28 : decode cX11_rates 28 = .ok (.iload 4, 2) := by decide +kernel
theorem dX11_rates_30 : decode cX11_rates 30 = .ok (.aload_n 0, 1) := by decide +kernel
theorem dX11_rates_31 : decode cX11_rates 31 = .ok (.getfield 81, 3) := by decide +kernel
theorem dX11_rates_34 : decode cX11_rates 34 = .ok (.if_icmp .ge 81, 3) := by decide +kernel
theorem dX11_rates_37 : decode cX11_rates 37 = .ok (.aload_n 0, 1) := by decide +kernel
theorem dX11_rates_38 : decode cX11_rates 38 = .ok (.iload 4, 2) := by decide +kernel
theorem dX11_rates_40 : decode cX11_rates 40 = .ok (.invokevirtual 183, 3) := by decide +kernel
theorem dX11_rates_43 : decode cX11_rates 43 = .ok (.ifCond .eq 30, 3) := by decide +kernel
theorem dX11_rates_46 : decode cX11_rates 46 = .ok (.aload_n 0, 1) := by decide +kernel
theorem dX11_rates_47 : decode cX11_rates 47 = .ok (.iload 4, 2) := by decide +kernel
theorem dX11_rates_49 : decode cX11_rates 49 = .ok (.aload_n 0, 1) := by decide +kernel
theorem dX11_rates_50 : decode cX11_rates 50 = .ok (.getfield 25, 3) := by decide +kernel
theorem dX11_rates_53 : decode cX11_rates 53 = .ok (.iload 4, 2) := by decide +kernel
theorem dX11_rates_55 : decode cX11_rates 55 = .ok (.iaload, 1) := by decide +kernel
theorem dX11_rates_56 : decode cX11_rates 56 = .ok (.aload_n 0, 1) := by decide +kernel
theorem dX11_rates_57 : decode cX11_rates 57 = .ok (.getfield 25, 3) := by decide +kernel
theorem dX11_rates_60 : decode cX11_rates 60 = .ok (.bipush 14, 2) := by decide +kernel
theorem dX11_rates_62 : decode cX11_rates 62 = .ok (.iload 4, 2) := by decide +kernel
theorem dX11_rates_64 : decode cX11_rates 64 = .ok (.iadd, 1) := by decide +kernel
theorem dX11_rates_65 : decode cX11_rates 65 = .ok (.iaload, 1) := by decide +kernel
theorem dX11_rates_66 : decode cX11_rates 66 = .ok (.iload_n 2, 1) := by decide +kernel
theorem dX11_rates_67 : decode cX11_rates 67 = .ok (.invokevirtual 187, 3) := by decide +kernel
theorem dX11_rates_70 : decode cX11_rates 70 = .ok (.goto 4, 3) := by decide +kernel
theorem dX11_rates_73 : decode cX11_rates 73 = .ok (.iconst 0, 1) := by decide +kernel
theorem dX11_rates_74 : decode cX11_rates 74 = .ok (.istore 5, 2) := by decide +kernel
theorem dX11_rates_76 : decode cX11_rates 76 = .ok (.iload_n 3, 1) := by decide +kernel
theorem dX11_rates_77 : decode cX11_rates 77 = .ok (.iload 5, 2) := by decide +kernel
theorem dX11_rates_79 : decode cX11_rates 79 = .ok (.aload_n 0, 1) := by decide +kernel
theorem dX11_rates_80 : decode cX11_rates 80 = .ok (.getfield 25, 3) := by decide +kernel
theorem dX11_rates_83 : decode cX11_rates 83 = .ok (.bipush 7, 2) := by decide +kernel
theorem dX11_rates_85 : decode cX11_rates 85 = .ok (.iload 4, 2) := by decide +kernel
theorem dX11_rates_87 : decode cX11_rates 87 = .ok (.iadd, 1) := by decide +kernel
theorem dX11_rates_88 : decode cX11_rates 88 = .ok (.iaload, 1) := by decide +kernel
theorem dX11_rates_89 : decode cX11_rates 89 = .ok (.if_icmp .ge 8, 3) := by decide +kernel
theorem dX11_rates_92 : decode cX11_rates 92 = .ok (.iload 5, 2) := by decide +kernel
theorem dX11_rates_94 : decode cX11_rates 94 = .ok (.goto 13, 3) := by decide +kernel
theorem dX11_rates_97 : decode cX11_rates 97 = .ok (.aload_n 0, 1) := by decide +kernel
theorem dX11_rates_98 : decode cX11_rates 98 = .ok (.getfield 25, 3) := by decide +kernel
theorem dX11_rates_101 : decode cX11_rates 101 = .ok (.bipush 7, 2) := by decide +kernel
theorem dX11_rates_103 : decode cX11_rates 103 = .ok (.iload 4, 2) := by decide +kernel
theorem dX11_rates_105 : decode cX11_rates 105 = .ok (.iadd, 1) := by decide +kernel
theorem dX11_rates_106 : decode cX11_rates 106 = .ok (.iaload, 1) := by decide +kernel
theorem dX11_rates_107 : decode cX11_rates 107 = .ok (.iadd, 1) := by decide +kernel
theorem dX11_rates_108 : decode cX11_rates 108 = .ok (.istore_n 3, 1) := by decide +kernel
theorem dX11_rates_109 : decode cX11_rates 109 = .ok (.iinc 4 1, 3) := by decide +kernel
theorem dX11_rates_112 : decode cX11_rates 112 = .ok (.goto (-84), 3) := by decide +kernel
theorem dX11_rates_115 : decode cX11_rates 115 = .ok (.iload_n 3, 1) := by decide +kernel
theorem dX11_rates_116 : decode cX11_rates 116 = .ok (.iload_n 1, 1) := by decide +kernel
theorem dX11_rates_117 : decode cX11_rates 117 = .ok (.if_icmp .lt 5, 3) := by decide +kernel
theorem dX11_rates_120 : decode cX11_rates 120 = .ok (.iload_n 2, 1) := by decide +kernel
theorem dX11_rates_121 : decode cX11_rates 121 = .ok (.ireturn, 1) := by decide +kernel
theorem dX11_rates_122 : decode cX11_rates 122 = .ok (.iinc 2 1, 3) := by decide +kernel
theorem dX11_rates_125 : decode cX11_rates 125 = .ok (.goto (-108), 3) := by decide +kernel
theorem dX11_rates_128 : decode cX11_rates 128 = .ok (.iconst (-1), 1) := by decide +kernel
theorem dX11_rates_129 : decode cX11_rates 129 = .ok (.ireturn, 1) := by decide +kernel
theorem dX11_dry_0 : decode cX11_dry 0 = .ok (.iload_n 1, 1) := by decide +kernel
theorem dX11_dry_1 : decode cX11_dry 1 = .ok (.i2l, 1) := by decide +kernel
theorem dX11_dry_2 : decode cX11_dry 2 = .ok (.lconst 0, 1) := by decide +kernel
theorem dX11_dry_3 : decode cX11_dry 3 = .ok (.ldc2_w 243, 3) := by decide +kernel
theorem dX11_dry_6 : decode cX11_dry 6 = .ok (.invokestatic 84, 3) := by decide +kernel
theorem dX11_dry_9 : decode cX11_dry 9 = .ok (.ifCond .eq 15, 3) := by decide +kernel
theorem dX11_dry_12 : decode cX11_dry 12 = .ok (.iload_n 2, 1) := by decide +kernel
theorem dX11_dry_13 : decode cX11_dry 13 = .ok (.i2l, 1) := by decide +kernel
theorem dX11_dry_14 : decode cX11_dry 14 = .ok (.lconst 0, 1) := by decide +kernel
theorem dX11_dry_15 : decode cX11_dry 15 = .ok (.ldc2_w 318, 3) := by decide +kernel
theorem dX11_dry_18 : decode cX11_dry 18 = .ok (.invokestatic 84, 3) := by decide +kernel
theorem dX11_dry_21 : decode cX11_dry 21 = .ok (.ifCond .ne 6, 3) := by decide +kernel
theorem dX11_dry_24 : decode cX11_dry 24 = .ok (.ldc 93, 2) := by decide +kernel
theorem dX11_dry_26 : decode cX11_dry 26 = .ok (.ireturn, 1) := by decide +kernel
theorem dX11_dry_27 : decode cX11_dry 27 = .ok (.ldc2_w 320, 3) := by decide +kernel
theorem dX11_dry_30 : decode cX11_dry 30 = .ok (.lstore_n 3, 1) := by decide +kernel
theorem dX11_dry_31 : decode cX11_dry 31 = .ok (.iconst 0, 1) := by decide +kernel
theorem dX11_dry_32 : decode cX11_dry 32 = .ok (.istore 5, 2) := by decide +kernel
theorem dX11_dry_34 : decode cX11_dry 34 = .ok (.iload 5, 2) := by decide +kernel
theorem dX11_dry_36 : decode cX11_dry 36 = .ok (.iload_n 1, 1) := by decide +kernel
theorem dX11_dry_37 : decode cX11_dry 37 = .ok (.if_icmp .ge 18, 3) := by decide +kernel
theorem dX11_dry_40 : decode cX11_dry 40 = .ok (.lload_n 3, 1) := by decide +kernel
theorem dX11_dry_41 : decode cX11_dry 41 = .ok (.iload_n 2, 1) := by decide +kernel
theorem dX11_dry_42 : decode cX11_dry 42 = .ok (.i2l, 1) := by decide +kernel
theorem dX11_dry_43 : decode cX11_dry 43 = .ok (.lmul, 1) := by decide +kernel
theorem dX11_dry_44 : decode cX11_dry 44 = .ok (.ldc2_w 318, 3) := by decide +kernel
theorem dX11_dry_47 : decode cX11_dry 47 = .ok (.ldiv, 1) := by decide +kernel
theorem dX11_dry_48 : decode cX11_dry 48 = .ok (.lstore_n 3, 1) := by decide +kernel
theorem dX11_dry_49 : decode cX11_dry 49 = .ok (.iinc 5 1, 3) := by decide +kernel
theorem dX11_dry_52 : decode cX11_dry 52 = .ok (.goto (-18), 3) := by decide +kernel
theorem dX11_dry_55 : decode cX11_dry 55 = .ok (.lload_n 3, 1) := by decide +kernel
theorem dX11_dry_56 : decode cX11_dry 56 = .ok (.l2i, 1) := by decide +kernel
theorem dX11_dry_57 : decode cX11_dry 57 = .ok (.ireturn, 1) := by decide +kernel
theorem dX11_pay_0 : decode cX11_pay 0 = .ok (.aload_n 0, 1) := by decide +kernel
theorem dX11_pay_1 : decode cX11_pay 1 = .ok (.iload_n 1, 1) := by decide +kernel
theorem dX11_pay_2 : decode cX11_pay 2 = .ok (.invokevirtual 232, 3) := by decide +kernel
theorem dX11_pay_5 : decode cX11_pay 5 = .ok (.ifCond .ne 6, 3) := by decide +kernel
theorem dX11_pay_8 : decode cX11_pay 8 = .ok (.ldc 231, 2) := by decide +kernel
theorem dX11_pay_10 : decode cX11_pay 10 = .ok (.ireturn, 1) := by decide +kernel
theorem dX11_pay_11 : decode cX11_pay 11 = .ok (.iload_n 2, 1) := by decide +kernel
theorem dX11_pay_12 : decode cX11_pay 12 = .ok (.i2l, 1) := by decide +kernel
theorem dX11_pay_13 : decode cX11_pay 13 = .ok (.lconst 0, 1) := by decide +kernel
theorem dX11_pay_14 : decode cX11_pay 14 = .ok (.ldc2_w 322, 3) := by decide +kernel
theorem dX11_pay_17 : decode cX11_pay 17 = .ok (.invokestatic 84, 3) := by decide +kernel
theorem dX11_pay_20 : decode cX11_pay 20 = .ok (.ifCond .ne 6, 3) := by decide +kernel
theorem dX11_pay_23 : decode cX11_pay 23 = .ok (.ldc 93, 2) := by decide +kernel
theorem dX11_pay_25 : decode cX11_pay 25 = .ok (.ireturn, 1) := by decide +kernel
theorem dX11_pay_26 : decode cX11_pay 26 = .ok (.aload_n 0, 1) := by decide +kernel
theorem dX11_pay_27 : decode cX11_pay 27 = .ok (.getfield 170, 3) := by decide +kernel
theorem dX11_pay_30 : decode cX11_pay 30 = .ok (.bipush 6, 2) := by decide +kernel
theorem dX11_pay_32 : decode cX11_pay 32 = .ok (.if_icmp .ne 6, 3) := by decide +kernel
theorem dX11_pay_35 : decode cX11_pay 35 = .ok (.ldc 97, 2) := by decide +kernel
theorem dX11_pay_37 : decode cX11_pay 37 = .ok (.ireturn, 1) := by decide +kernel
theorem dX11_pay_38 : decode cX11_pay 38 = .ok (.aload_n 0, 1) := by decide +kernel
theorem dX11_pay_39 : decode cX11_pay 39 = .ok (.getfield 59, 3) := by decide +kernel
theorem dX11_pay_42 : decode cX11_pay 42 = .ok (.aload_n 0, 1) := by decide +kernel
theorem dX11_pay_43 : decode cX11_pay 43 = .ok (.getfield 170, 3) := by decide +kernel
theorem dX11_pay_46 : decode cX11_pay 46 = .ok (.iload_n 1, 1) := by decide +kernel
theorem dX11_pay_47 : decode cX11_pay 47 = .ok (.iastore, 1) := by decide +kernel
theorem dX11_pay_48 : decode cX11_pay 48 = .ok (.aload_n 0, 1) := by decide +kernel
theorem dX11_pay_49 : decode cX11_pay 49 = .ok (.getfield 62, 3) := by decide +kernel
theorem dX11_pay_52 : decode cX11_pay 52 = .ok (.aload_n 0, 1) := by decide +kernel
theorem dX11_pay_53 : decode cX11_pay 53 = .ok (.getfield 170, 3) := by decide +kernel
theorem dX11_pay_56 : decode cX11_pay 56 = .ok (.iload_n 2, 1) := by decide +kernel
theorem dX11_pay_57 : decode cX11_pay 57 = .ok (.iastore, 1) := by decide +kernel
theorem dX11_pay_58 : decode cX11_pay 58 = .ok (.aload_n 0, 1) := by decide +kernel
theorem dX11_pay_59 : decode cX11_pay 59 = .ok (.dup, 1) := by decide +kernel
theorem dX11_pay_60 : decode cX11_pay 60 = .ok (.getfield 170, 3) := by decide +kernel
theorem dX11_pay_63 : decode cX11_pay 63 = .ok (.iconst 1, 1) := by decide +kernel
theorem dX11_pay_64 : decode cX11_pay 64 = .ok (.iadd, 1) := by decide +kernel
theorem dX11_pay_65 : decode cX11_pay 65 = .ok (.putfield 170, 3) := by decide +kernel
theorem dX11_pay_68 : decode cX11_pay 68 = .ok (.aload_n 0, 1) := by decide +kernel
theorem dX11_pay_69 : decode cX11_pay 69 = .ok (.getfield 170, 3) := by decide +kernel
theorem dX11_pay_72 : decode cX11_pay 72 = .ok (.ireturn, 1) := by decide +kernel
theorem dX11_couldBe_0 : decode cX11_couldBe 0 = .ok (.iconst 1, 1) := by decide +kernel
theorem dX11_couldBe_1 : decode cX11_couldBe 1 = .ok (.istore_n 2, 1) := by decide +kernel
theorem dX11_couldBe_2 : decode cX11_couldBe 2 = .ok (.iconst 0, 1) := by decide +kernel
theorem dX11_couldBe_3 : decode cX11_couldBe 3 = .ok (.istore_n 3, 1) := by decide +kernel
theorem dX11_couldBe_4 : decode cX11_couldBe 4 = .ok (.iload_n 3, 1) := by decide +kernel
theorem dX11_couldBe_5 : decode cX11_couldBe 5 = .ok (.aload_n 0, 1) := by decide +kernel
theorem dX11_couldBe_6 : decode cX11_couldBe 6 = .ok (.getfield 170, 3) := by decide +kernel
theorem dX11_couldBe_9 : decode cX11_couldBe 9 = .ok (.if_icmp .ge 39, 3) := by decide +kernel
theorem dX11_couldBe_12 : decode cX11_couldBe 12 = .ok (.iload_n 2, 1) := by decide +kernel
theorem dX11_couldBe_13 : decode cX11_couldBe 13 = .ok (.ifCond .eq 35, 3) := by decide +kernel
theorem dX11_couldBe_16 : decode cX11_couldBe 16 = .ok (.aload_n 0, 1) := by decide +kernel
theorem dX11_couldBe_17 : decode cX11_couldBe 17 = .ok (.iload_n 1, 1) := by decide +kernel
theorem dX11_couldBe_18 : decode cX11_couldBe 18 = .ok (.aload_n 0, 1) := by decide +kernel
theorem dX11_couldBe_19 : decode cX11_couldBe 19 = .ok (.getfield 59, 3) := by decide +kernel
theorem dX11_couldBe_22 : decode cX11_couldBe 22 = .ok (.iload_n 3, 1) := by decide +kernel
theorem dX11_couldBe_23 : decode cX11_couldBe 23 = .ok (.iaload, 1) := by decide +kernel
theorem dX11_couldBe_24 : decode cX11_couldBe 24 = .ok (.invokevirtual 310, 3) := by decide +kernel
theorem dX11_couldBe_27 : decode cX11_couldBe 27 = .ok (.aload_n 0, 1) := by decide +kernel
theorem dX11_couldBe_28 : decode cX11_couldBe 28 = .ok (.getfield 62, 3) := by decide +kernel
theorem dX11_couldBe_31 : decode cX11_couldBe 31 = .ok (.iload_n 3, 1) := by decide +kernel
theorem dX11_couldBe_32 : decode cX11_couldBe 32 = .ok (.iaload, 1) := by decide +kernel
theorem dX11_couldBe_33 : decode cX11_couldBe 33 = .ok (.if_icmp .ne 7, 3) := by decide +kernel
theorem dX11_couldBe_36 : decode cX11_couldBe 36 = .ok (.iconst 1, 1) := by decide +kernel
theorem dX11_couldBe_37 : decode cX11_couldBe 37 = .ok (.goto 4, 3) := by decide +kernel
theorem dX11_couldBe_40 : decode cX11_couldBe 40 = .ok (.iconst 0, 1) := by decide +kernel
theorem dX11_couldBe_41 : decode cX11_couldBe 41 = .ok (.istore_n 2, 1) := by decide +kernel
theorem dX11_couldBe_42 : decode cX11_couldBe 42 = .ok (.iinc 3 1, 3) := by decide +kernel
theorem dX11_couldBe_45 : decode cX11_couldBe 45 = .ok (.goto (-41), 3) := by decide +kernel
theorem dX11_couldBe_48 : decode cX11_couldBe 48 = .ok (.iload_n 2, 1) := by decide +kernel
theorem dX11_couldBe_49 : decode cX11_couldBe 49 = .ok (.ireturn, 1) := by decide +kernel
theorem dX11_choirsWith_0 : decode cX11_choirsWith 0 = .ok (.iconst 0, 1) := by decide +kernel
theorem dX11_choirsWith_1 : decode cX11_choirsWith 1 = .ok (.istore_n 2, 1) := by decide +kernel
theorem dX11_choirsWith_2 : decode cX11_choirsWith 2 = .ok (.iconst 0, 1) := by decide +kernel
theorem dX11_choirsWith_3 : decode cX11_choirsWith 3 = .ok (.istore_n 3, 1) := by decide +kernel
theorem dX11_choirsWith_4 : decode cX11_choirsWith 4 = .ok (.iload_n 3, 1) := by decide +kernel
theorem dX11_choirsWith_5 : decode cX11_choirsWith 5 = .ok (.iconst 1, 1) := by decide +kernel
theorem dX11_choirsWith_6 : decode cX11_choirsWith 6 = .ok (.aload_n 0, 1) := by decide +kernel
theorem dX11_choirsWith_7 : decode cX11_choirsWith 7 = .ok (.getfield 81, 3) := by decide +kernel
theorem dX11_choirsWith_10 : decode cX11_choirsWith 10 = .ok (.ishl, 1) := by decide +kernel
theorem dX11_choirsWith_11 : decode cX11_choirsWith 11 = .ok (.if_icmp .ge 32, 3) := by decide +kernel
theorem dX11_choirsWith_14 : decode cX11_choirsWith 14 = .ok (.iload_n 2, 1) := by decide +kernel
theorem dX11_choirsWith_15 : decode cX11_choirsWith 15 = .ok (.iload_n 3, 1) := by decide +kernel
theorem dX11_choirsWith_16 : decode cX11_choirsWith 16 = .ok (.iload_n 1, 1) := by decide +kernel
theorem dX11_choirsWith_17 : decode cX11_choirsWith 17 = .ok (.iand, 1) := by decide +kernel
theorem dX11_choirsWith_18 : decode cX11_choirsWith 18 = .ok (.iload_n 1, 1) := by decide +kernel
theorem dX11_choirsWith_19 : decode cX11_choirsWith 19 = .ok (.if_icmp .ne 15, 3) := by decide +kernel
theorem dX11_choirsWith_22 : decode cX11_choirsWith 22 = .ok (.aload_n 0, 1) := by decide +kernel
theorem dX11_choirsWith_23 : decode cX11_choirsWith 23 = .ok (.iload_n 3, 1) := by decide +kernel
theorem dX11_choirsWith_24 : decode cX11_choirsWith 24 = .ok (.invokevirtual 324, 3) := by decide +kernel
theorem dX11_choirsWith_27 : decode cX11_choirsWith 27 = .ok (.ifCond .eq 7, 3) := by decide +kernel
theorem dX11_choirsWith_30 : decode cX11_choirsWith 30 = .ok (.iconst 1, 1) := by decide +kernel
theorem dX11_choirsWith_31 : decode cX11_choirsWith 31 = .ok (.goto 4, 3) := by decide +kernel
theorem dX11_choirsWith_34 : decode cX11_choirsWith 34 = .ok (.iconst 0, 1) := by decide +kernel
theorem dX11_choirsWith_35 : decode cX11_choirsWith 35 = .ok (.iadd, 1) := by decide +kernel
theorem dX11_choirsWith_36 : decode cX11_choirsWith 36 = .ok (.istore_n 2, 1) := by decide +kernel
theorem dX11_choirsWith_37 : decode cX11_choirsWith 37 = .ok (.iinc 3 1, 3) := by decide +kernel
theorem dX11_choirsWith_40 : decode cX11_choirsWith 40 = .ok (.goto (-36), 3) := by decide +kernel
theorem dX11_choirsWith_43 : decode cX11_choirsWith 43 = .ok (.iload_n 2, 1) := by decide +kernel
theorem dX11_choirsWith_44 : decode cX11_choirsWith 44 = .ok (.ireturn, 1) := by decide +kernel
theorem dX11_choirs_0 : decode cX11_choirs 0 = .ok (.aload_n 0, 1) := by decide +kernel
theorem dX11_choirs_1 : decode cX11_choirs 1 = .ok (.iconst 0, 1) := by decide +kernel
theorem dX11_choirs_2 : decode cX11_choirs 2 = .ok (.invokevirtual 327, 3) := by decide +kernel
theorem dX11_choirs_5 : decode cX11_choirs 5 = .ok (.ireturn, 1) := by decide +kernel
theorem dX11_inEach_0 : decode cX11_inEach 0 = .ok (.iconst (-1), 1) := by decide +kernel
theorem dX11_inEach_1 : decode cX11_inEach 1 = .ok (.istore_n 1, 1) := by decide +kernel
theorem dX11_inEach_2 : decode cX11_inEach 2 = .ok (.iconst 0, 1) := by decide +kernel
theorem dX11_inEach_3 : decode cX11_inEach 3 = .ok (.istore_n 2, 1) := by decide +kernel
theorem dX11_inEach_4 : decode cX11_inEach 4 = .ok (.iload_n 2, 1) := by decide +kernel
theorem dX11_inEach_5 : decode cX11_inEach 5 = .ok (.iconst 1, 1) := by decide +kernel
theorem dX11_inEach_6 : decode cX11_inEach 6 = .ok (.aload_n 0, 1) := by decide +kernel
theorem dX11_inEach_7 : decode cX11_inEach 7 = .ok (.getfield 81, 3) := by decide +kernel
theorem dX11_inEach_10 : decode cX11_inEach 10 = .ok (.ishl, 1) := by decide +kernel
theorem dX11_inEach_11 : decode cX11_inEach 11 = .ok (.if_icmp .ge 33, 3) := by decide +kernel
theorem dX11_inEach_14 : decode cX11_inEach 14 = .ok (.aload_n 0, 1) := by decide +kernel
theorem dX11_inEach_15 : decode cX11_inEach 15 = .ok (.iload_n 2, 1) := by decide +kernel
theorem dX11_inEach_16 : decode cX11_inEach 16 = .ok (.invokevirtual 324, 3) := by decide +kernel
theorem dX11_inEach_19 : decode cX11_inEach 19 = .ok (.ifCond .eq 17, 3) := by decide +kernel
theorem dX11_inEach_22 : decode cX11_inEach 22 = .ok (.iload_n 1, 1) := by decide +kernel
theorem dX11_inEach_23 : decode cX11_inEach 23 = .ok (.ifCond .ge 7, 3) := by decide +kernel
theorem dX11_inEach_26 : decode cX11_inEach 26 = .ok (.iload_n 2, 1) := by decide +kernel
theorem dX11_inEach_27 : decode cX11_inEach 27 = .ok (.goto 10, 3) := by decide +kernel
theorem dX11_inEach_30 : decode cX11_inEach 30 = .ok (.iload_n 1, 1) := by decide +kernel
theorem dX11_inEach_31 : decode cX11_inEach 31 = .ok (.iload_n 2, 1) := by decide +kernel
theorem dX11_inEach_32 : decode cX11_inEach 32 = .ok (.iand, 1) := by decide +kernel
theorem dX11_inEach_33 : decode cX11_inEach 33 = .ok (.goto 4, 3) := by decide +kernel
theorem dX11_inEach_36 : decode cX11_inEach 36 = .ok (.iload_n 1, 1) := by decide +kernel
theorem dX11_inEach_37 : decode cX11_inEach 37 = .ok (.istore_n 1, 1) := by decide +kernel
theorem dX11_inEach_38 : decode cX11_inEach 38 = .ok (.iinc 2 1, 3) := by decide +kernel
theorem dX11_inEach_41 : decode cX11_inEach 41 = .ok (.goto (-37), 3) := by decide +kernel
theorem dX11_inEach_44 : decode cX11_inEach 44 = .ok (.iload_n 1, 1) := by decide +kernel
theorem dX11_inEach_45 : decode cX11_inEach 45 = .ok (.ireturn, 1) := by decide +kernel
theorem dX11_lip_0 : decode cX11_lip 0 = .ok (.aload_n 0, 1) := by decide +kernel
theorem dX11_lip_1 : decode cX11_lip 1 = .ok (.invokevirtual 219, 3) := by decide +kernel
theorem dX11_lip_4 : decode cX11_lip 4 = .ok (.istore_n 1, 1) := by decide +kernel
theorem dX11_lip_5 : decode cX11_lip 5 = .ok (.iconst (-1), 1) := by decide +kernel
theorem dX11_lip_6 : decode cX11_lip 6 = .ok (.istore_n 2, 1) := by decide +kernel
theorem dX11_lip_7 : decode cX11_lip 7 = .ok (.iload_n 1, 1) := by decide +kernel
theorem dX11_lip_8 : decode cX11_lip 8 = .ok (.istore_n 3, 1) := by decide +kernel
theorem dX11_lip_9 : decode cX11_lip 9 = .ok (.iconst 0, 1) := by decide +kernel
theorem dX11_lip_10 : decode cX11_lip 10 = .ok (.istore 4, 2) := by decide +kernel
theorem dX11_lip_12 : decode cX11_lip 12 = .ok (.iload 4, 2) := by decide +kernel
theorem dX11_lip_14 : decode cX11_lip 14 = .ok (.aload_n 0, 1) := by decide +kernel
theorem dX11_lip_15 : decode cX11_lip 15 = .ok (.getfield 81, 3) := by decide +kernel
theorem dX11_lip_18 : decode cX11_lip 18 = .ok (.if_icmp .ge 65, 3) := by decide +kernel
theorem dX11_lip_21 : decode cX11_lip 21 = .ok (.aload_n 0, 1) := by decide +kernel
theorem dX11_lip_22 : decode cX11_lip 22 = .ok (.iconst 1, 1) := by decide +kernel
theorem dX11_lip_23 : decode cX11_lip 23 = .ok (.iload 4, 2) := by decide +kernel
theorem dX11_lip_25 : decode cX11_lip 25 = .ok (.ishl, 1) := by decide +kernel
theorem dX11_lip_26 : decode cX11_lip 26 = .ok (.invokevirtual 327, 3) := by decide +kernel
theorem dX11_lip_29 : decode cX11_lip 29 = .ok (.istore 5, 2) := by decide +kernel
theorem dX11_lip_31 : decode cX11_lip 31 = .ok (.iload 5, 2) := by decide +kernel
theorem dX11_lip_33 : decode cX11_lip 33 = .ok (.iload_n 1, 1) := by decide +kernel
theorem dX11_lip_34 : decode cX11_lip 34 = .ok (.iload 5, 2) := by decide +kernel
theorem dX11_lip_36 : decode cX11_lip 36 = .ok (.isub, 1) := by decide +kernel
theorem dX11_lip_37 : decode cX11_lip 37 = .ok (.if_icmp .le 8, 3) := by decide +kernel
theorem dX11_lip_40 : decode cX11_lip 40 = .ok (.iload 5, 2) := by decide +kernel
theorem dX11_lip_42 : decode cX11_lip 42 = .ok (.goto 7, 3) := by decide +kernel
theorem dX11_lip_45 : decode cX11_lip 45 = .ok (.iload_n 1, 1) := by decide +kernel
theorem dX11_lip_46 : decode cX11_lip 46 = .ok (.iload 5, 2) := by decide +kernel
theorem dX11_lip_48 : decode cX11_lip 48 = .ok (.isub, 1) := by decide +kernel
theorem dX11_lip_49 : decode cX11_lip 49 = .ok (.istore 6, 2) := by decide +kernel
theorem dX11_lip_51 : decode cX11_lip 51 = .ok (.iload 6, 2) := by decide +kernel
theorem dX11_lip_53 : decode cX11_lip 53 = .ok (.iload_n 3, 1) := by decide +kernel
theorem dX11_lip_54 : decode cX11_lip 54 = .ok (.if_icmp .ge 8, 3) := by decide +kernel
theorem dX11_lip_57 : decode cX11_lip 57 = .ok (.iload 4, 2) := by decide +kernel
theorem dX11_lip_59 : decode cX11_lip 59 = .ok (.goto 4, 3) := by decide +kernel
theorem dX11_lip_62 : decode cX11_lip 62 = .ok (.iload_n 2, 1) := by decide +kernel
theorem dX11_lip_63 : decode cX11_lip 63 = .ok (.istore_n 2, 1) := by decide +kernel
theorem dX11_lip_64 : decode cX11_lip 64 = .ok (.iload 6, 2) := by decide +kernel
theorem dX11_lip_66 : decode cX11_lip 66 = .ok (.iload_n 3, 1) := by decide +kernel
theorem dX11_lip_67 : decode cX11_lip 67 = .ok (.if_icmp .ge 8, 3) := by decide +kernel
theorem dX11_lip_70 : decode cX11_lip 70 = .ok (.iload 6, 2) := by decide +kernel
theorem dX11_lip_72 : decode cX11_lip 72 = .ok (.goto 4, 3) := by decide +kernel
theorem dX11_lip_75 : decode cX11_lip 75 = .ok (.iload_n 3, 1) := by decide +kernel
theorem dX11_lip_76 : decode cX11_lip 76 = .ok (.istore_n 3, 1) := by decide +kernel
theorem dX11_lip_77 : decode cX11_lip 77 = .ok (.iinc 4 1, 3) := by decide +kernel
theorem dX11_lip_80 : decode cX11_lip 80 = .ok (.goto (-68), 3) := by decide +kernel
theorem dX11_lip_83 : decode cX11_lip 83 = .ok (.iload_n 2, 1) := by decide +kernel
theorem dX11_lip_84 : decode cX11_lip 84 = .ok (.ireturn, 1) := by decide +kernel
theorem dX11_write_0 : decode cX11_write 0 = .ok (.aload_n 0, 1) := by decide +kernel
theorem dX11_write_1 : decode cX11_write 1 = .ok (.iload_n 1, 1) := by decide +kernel
theorem dX11_write_2 : decode cX11_write 2 = .ok (.invokevirtual 228, 3) := by decide +kernel
theorem dX11_write_5 : decode cX11_write 5 = .ok (.ifCond .ne 6, 3) := by decide +kernel
theorem dX11_write_8 : decode cX11_write 8 = .ok (.ldc 231, 2) := by decide +kernel
theorem dX11_write_10 : decode cX11_write 10 = .ok (.ireturn, 1) := by decide +kernel
theorem dX11_write_11 : decode cX11_write 11 = .ok (.iload_n 2, 1) := by decide +kernel
theorem dX11_write_12 : decode cX11_write 12 = .ok (.i2l, 1) := by decide +kernel
theorem dX11_write_13 : decode cX11_write 13 = .ok (.lconst 0, 1) := by decide +kernel
theorem dX11_write_14 : decode cX11_write 14 = .ok (.ldc2_w 322, 3) := by decide +kernel
theorem dX11_write_17 : decode cX11_write 17 = .ok (.invokestatic 84, 3) := by decide +kernel
theorem dX11_write_20 : decode cX11_write 20 = .ok (.ifCond .ne 6, 3) := by decide +kernel
theorem dX11_write_23 : decode cX11_write 23 = .ok (.ldc 93, 2) := by decide +kernel
theorem dX11_write_25 : decode cX11_write 25 = .ok (.ireturn, 1) := by decide +kernel
theorem dX11_write_26 : decode cX11_write 26 = .ok (.aload_n 0, 1) := by decide +kernel
theorem dX11_write_27 : decode cX11_write 27 = .ok (.getfield 173, 3) := by decide +kernel
theorem dX11_write_30 : decode cX11_write 30 = .ok (.bipush 15, 2) := by decide +kernel
theorem dX11_write_32 : decode cX11_write 32 = .ok (.if_icmp .ne 6, 3) := by decide +kernel
theorem dX11_write_35 : decode cX11_write 35 = .ok (.ldc 97, 2) := by decide +kernel
theorem dX11_write_37 : decode cX11_write 37 = .ok (.ireturn, 1) := by decide +kernel
theorem dX11_write_38 : decode cX11_write 38 = .ok (.aload_n 0, 1) := by decide +kernel
theorem dX11_write_39 : decode cX11_write 39 = .ok (.getfield 65, 3) := by decide +kernel
theorem dX11_write_42 : decode cX11_write 42 = .ok (.aload_n 0, 1) := by decide +kernel
theorem dX11_write_43 : decode cX11_write 43 = .ok (.getfield 173, 3) := by decide +kernel
theorem dX11_write_46 : decode cX11_write 46 = .ok (.iload_n 1, 1) := by decide +kernel
theorem dX11_write_47 : decode cX11_write 47 = .ok (.iastore, 1) := by decide +kernel
theorem dX11_write_48 : decode cX11_write 48 = .ok (.aload_n 0, 1) := by decide +kernel
theorem dX11_write_49 : decode cX11_write 49 = .ok (.getfield 68, 3) := by decide +kernel
theorem dX11_write_52 : decode cX11_write 52 = .ok (.aload_n 0, 1) := by decide +kernel
theorem dX11_write_53 : decode cX11_write 53 = .ok (.getfield 173, 3) := by decide +kernel
theorem dX11_write_56 : decode cX11_write 56 = .ok (.iload_n 2, 1) := by decide +kernel
theorem dX11_write_57 : decode cX11_write 57 = .ok (.iastore, 1) := by decide +kernel
theorem dX11_write_58 : decode cX11_write 58 = .ok (.aload_n 0, 1) := by decide +kernel
theorem dX11_write_59 : decode cX11_write 59 = .ok (.dup, 1) := by decide +kernel
theorem dX11_write_60 : decode cX11_write 60 = .ok (.getfield 173, 3) := by decide +kernel
theorem dX11_write_63 : decode cX11_write 63 = .ok (.iconst 1, 1) := by decide +kernel
theorem dX11_write_64 : decode cX11_write 64 = .ok (.iadd, 1) := by decide +kernel
theorem dX11_write_65 : decode cX11_write 65 = .ok (.putfield 173, 3) := by decide +kernel
theorem dX11_write_68 : decode cX11_write 68 = .ok (.aload_n 0, 1) := by decide +kernel
theorem dX11_write_69 : decode cX11_write 69 = .ok (.getfield 173, 3) := by decide +kernel
theorem dX11_write_72 : decode cX11_write 72 = .ok (.ireturn, 1) := by decide +kernel
theorem dX11_tear_0 : decode cX11_tear 0 = .ok (.aload_n 0, 1) := by decide +kernel
theorem dX11_tear_1 : decode cX11_tear 1 = .ok (.getfield 170, 3) := by decide +kernel
theorem dX11_tear_4 : decode cX11_tear 4 = .ok (.aload_n 0, 1) := by decide +kernel
theorem dX11_tear_5 : decode cX11_tear 5 = .ok (.getfield 173, 3) := by decide +kernel
theorem dX11_tear_8 : decode cX11_tear 8 = .ok (.iadd, 1) := by decide +kernel
theorem dX11_tear_9 : decode cX11_tear 9 = .ok (.istore_n 1, 1) := by decide +kernel
theorem dX11_tear_10 : decode cX11_tear 10 = .ok (.aload_n 0, 1) := by decide +kernel
theorem dX11_tear_11 : decode cX11_tear 11 = .ok (.iconst 0, 1) := by decide +kernel
theorem dX11_tear_12 : decode cX11_tear 12 = .ok (.putfield 170, 3) := by decide +kernel
theorem dX11_tear_15 : decode cX11_tear 15 = .ok (.aload_n 0, 1) := by decide +kernel
theorem dX11_tear_16 : decode cX11_tear 16 = .ok (.iconst 0, 1) := by decide +kernel
theorem dX11_tear_17 : decode cX11_tear 17 = .ok (.putfield 173, 3) := by decide +kernel
theorem dX11_tear_20 : decode cX11_tear 20 = .ok (.iload_n 1, 1) := by decide +kernel
theorem dX11_tear_21 : decode cX11_tear 21 = .ok (.ireturn, 1) := by decide +kernel
theorem dX11_judge_0 : decode cX11_judge 0 = .ok (.iconst 0, 1) := by decide +kernel
theorem dX11_judge_1 : decode cX11_judge 1 = .ok (.istore_n 1, 1) := by decide +kernel
theorem dX11_judge_2 : decode cX11_judge 2 = .ok (.iload_n 1, 1) := by decide +kernel
theorem dX11_judge_3 : decode cX11_judge 3 = .ok (.aload_n 0, 1) := by decide +kernel
theorem dX11_judge_4 : decode cX11_judge 4 = .ok (.getfield 173, 3) := by decide +kernel
theorem dX11_judge_7 : decode cX11_judge 7 = .ok (.if_icmp .ge 34, 3) := by decide +kernel
theorem dX11_judge_10 : decode cX11_judge 10 = .ok (.aload_n 0, 1) := by decide +kernel
theorem dX11_judge_11 : decode cX11_judge 11 = .ok (.getfield 25, 3) := by decide +kernel
theorem dX11_judge_14 : decode cX11_judge 14 = .ok (.bipush 7, 2) := by decide +kernel
theorem dX11_judge_16 : decode cX11_judge 16 = .ok (.aload_n 0, 1) := by decide +kernel
theorem dX11_judge_17 : decode cX11_judge 17 = .ok (.getfield 65, 3) := by decide +kernel
theorem dX11_judge_20 : decode cX11_judge 20 = .ok (.iload_n 1, 1) := by decide +kernel
theorem dX11_judge_21 : decode cX11_judge 21 = .ok (.iaload, 1) := by decide +kernel
theorem dX11_judge_22 : decode cX11_judge 22 = .ok (.iadd, 1) := by decide +kernel
theorem dX11_judge_23 : decode cX11_judge 23 = .ok (.iaload, 1) := by decide +kernel
theorem dX11_judge_24 : decode cX11_judge 24 = .ok (.aload_n 0, 1) := by decide +kernel
theorem dX11_judge_25 : decode cX11_judge 25 = .ok (.getfield 68, 3) := by decide +kernel
theorem dX11_judge_28 : decode cX11_judge 28 = .ok (.iload_n 1, 1) := by decide +kernel
theorem dX11_judge_29 : decode cX11_judge 29 = .ok (.iaload, 1) := by decide +kernel
theorem dX11_judge_30 : decode cX11_judge 30 = .ok (.if_icmp .eq 5, 3) := by decide +kernel
theorem dX11_judge_33 : decode cX11_judge 33 = .ok (.iload_n 1, 1) := by decide +kernel
theorem dX11_judge_34 : decode cX11_judge 34 = .ok (.ireturn, 1) := by decide +kernel
theorem dX11_judge_35 : decode cX11_judge 35 = .ok (.iinc 1 1, 3) := by decide +kernel
theorem dX11_judge_38 : decode cX11_judge 38 = .ok (.goto (-36), 3) := by decide +kernel
theorem dX11_judge_41 : decode cX11_judge 41 = .ok (.iconst (-1), 1) := by decide +kernel
theorem dX11_judge_42 : decode cX11_judge 42 = .ok (.ireturn, 1) := by decide +kernel
theorem dX11_seed_0 : decode cX11_seed 0 = .ok (.iload_n 1, 1) := by decide +kernel
theorem dX11_seed_1 : decode cX11_seed 1 = .ok (.ifCond .ge 6, 3) := by decide +kernel
theorem dX11_seed_4 : decode cX11_seed 4 = .ok (.ldc 93, 2) := by decide +kernel
theorem dX11_seed_6 : decode cX11_seed 6 = .ok (.ireturn, 1) := by decide +kernel
theorem dX11_seed_7 : decode cX11_seed 7 = .ok (.aload_n 0, 1) := by decide +kernel
theorem dX11_seed_8 : decode cX11_seed 8 = .ok (.getfield 272, 3) := by decide +kernel
theorem dX11_seed_11 : decode cX11_seed 11 = .ok (.istore_n 2, 1) := by decide +kernel
theorem dX11_seed_12 : decode cX11_seed 12 = .ok (.aload_n 0, 1) := by decide +kernel
theorem dX11_seed_13 : decode cX11_seed 13 = .ok (.iload_n 1, 1) := by decide +kernel
theorem dX11_seed_14 : decode cX11_seed 14 = .ok (.putfield 272, 3) := by decide +kernel
theorem dX11_seed_17 : decode cX11_seed 17 = .ok (.iload_n 2, 1) := by decide +kernel
theorem dX11_seed_18 : decode cX11_seed 18 = .ok (.ireturn, 1) := by decide +kernel
theorem dX11_keep_0 : decode cX11_keep 0 = .ok (.iload_n 1, 1) := by decide +kernel
theorem dX11_keep_1 : decode cX11_keep 1 = .ok (.i2l, 1) := by decide +kernel
theorem dX11_keep_2 : decode cX11_keep 2 = .ok (.lconst 0, 1) := by decide +kernel
theorem dX11_keep_3 : decode cX11_keep 3 = .ok (.lconst 1, 1) := by decide +kernel
theorem dX11_keep_4 : decode cX11_keep 4 = .ok (.invokestatic 84, 3) := by decide +kernel
theorem dX11_keep_7 : decode cX11_keep 7 = .ok (.ifCond .ne 6, 3) := by decide +kernel
theorem dX11_keep_10 : decode cX11_keep 10 = .ok (.ldc 231, 2) := by decide +kernel
theorem dX11_keep_12 : decode cX11_keep 12 = .ok (.ireturn, 1) := by decide +kernel
theorem dX11_keep_13 : decode cX11_keep 13 = .ok (.iconst 0, 1) := by decide +kernel
theorem dX11_keep_14 : decode cX11_keep 14 = .ok (.istore_n 2, 1) := by decide +kernel
theorem dX11_keep_15 : decode cX11_keep 15 = .ok (.iload_n 2, 1) := by decide +kernel
theorem dX11_keep_16 : decode cX11_keep 16 = .ok (.bipush 29, 2) := by decide +kernel
theorem dX11_keep_18 : decode cX11_keep 18 = .ok (.if_icmp .ge 26, 3) := by decide +kernel
theorem dX11_keep_21 : decode cX11_keep 21 = .ok (.aload_n 0, 1) := by decide +kernel
theorem dX11_keep_22 : decode cX11_keep 22 = .ok (.getfield 71, 3) := by decide +kernel
theorem dX11_keep_25 : decode cX11_keep 25 = .ok (.bipush 30, 2) := by decide +kernel
theorem dX11_keep_27 : decode cX11_keep 27 = .ok (.iload_n 1, 1) := by decide +kernel
theorem dX11_keep_28 : decode cX11_keep 28 = .ok (.imul, 1) := by decide +kernel
theorem dX11_keep_29 : decode cX11_keep 29 = .ok (.iload_n 2, 1) := by decide +kernel
theorem dX11_keep_30 : decode cX11_keep 30 = .ok (.iadd, 1) := by decide +kernel
theorem dX11_keep_31 : decode cX11_keep 31 = .ok (.aload_n 0, 1) := by decide +kernel
theorem dX11_keep_32 : decode cX11_keep 32 = .ok (.getfield 25, 3) := by decide +kernel
theorem dX11_keep_35 : decode cX11_keep 35 = .ok (.iload_n 2, 1) := by decide +kernel
theorem dX11_keep_36 : decode cX11_keep 36 = .ok (.iaload, 1) := by decide +kernel
theorem dX11_keep_37 : decode cX11_keep 37 = .ok (.iastore, 1) := by decide +kernel
theorem dX11_keep_38 : decode cX11_keep 38 = .ok (.iinc 2 1, 3) := by decide +kernel
theorem dX11_keep_41 : decode cX11_keep 41 = .ok (.goto (-26), 3) := by decide +kernel
theorem dX11_keep_44 : decode cX11_keep 44 = .ok (.aload_n 0, 1) := by decide +kernel
theorem dX11_keep_45 : decode cX11_keep 45 = .ok (.getfield 71, 3) := by decide +kernel
theorem dX11_keep_48 : decode cX11_keep 48 = .ok (.bipush 30, 2) := by decide +kernel
theorem dX11_keep_50 : decode cX11_keep 50 = .ok (.iload_n 1, 1) := by decide +kernel
theorem dX11_keep_51 : decode cX11_keep 51 = .ok (.imul, 1) := by decide +kernel
theorem dX11_keep_52 : decode cX11_keep 52 = .ok (.bipush 29, 2) := by decide +kernel
theorem dX11_keep_54 : decode cX11_keep 54 = .ok (.iadd, 1) := by decide +kernel
theorem dX11_keep_55 : decode cX11_keep 55 = .ok (.aload_n 0, 1) := by decide +kernel
theorem dX11_keep_56 : decode cX11_keep 56 = .ok (.getfield 272, 3) := by decide +kernel
theorem dX11_keep_59 : decode cX11_keep 59 = .ok (.iastore, 1) := by decide +kernel
theorem dX11_keep_60 : decode cX11_keep 60 = .ok (.aload_n 0, 1) := by decide +kernel
theorem dX11_keep_61 : decode cX11_keep 61 = .ok (.getfield 74, 3) := by decide +kernel
theorem dX11_keep_64 : decode cX11_keep 64 = .ok (.iload_n 1, 1) := by decide +kernel
theorem dX11_keep_65 : decode cX11_keep 65 = .ok (.iconst 1, 1) := by decide +kernel
theorem dX11_keep_66 : decode cX11_keep 66 = .ok (.bastore, 1) := by decide +kernel
theorem dX11_keep_67 : decode cX11_keep 67 = .ok (.aload_n 0, 1) := by decide +kernel
theorem dX11_keep_68 : decode cX11_keep 68 = .ok (.iconst 0, 1) := by decide +kernel
theorem dX11_keep_69 : decode cX11_keep 69 = .ok (.putfield 176, 3) := by decide +kernel
theorem dX11_keep_72 : decode cX11_keep 72 = .ok (.iconst 1, 1) := by decide +kernel
theorem dX11_keep_73 : decode cX11_keep 73 = .ok (.ireturn, 1) := by decide +kernel
theorem dX11_goBack_0 : decode cX11_goBack 0 = .ok (.iload_n 1, 1) := by decide +kernel
theorem dX11_goBack_1 : decode cX11_goBack 1 = .ok (.i2l, 1) := by decide +kernel
theorem dX11_goBack_2 : decode cX11_goBack 2 = .ok (.lconst 0, 1) := by decide +kernel
theorem dX11_goBack_3 : decode cX11_goBack 3 = .ok (.lconst 1, 1) := by decide +kernel
theorem dX11_goBack_4 : decode cX11_goBack 4 = .ok (.invokestatic 84, 3) := by decide +kernel
theorem dX11_goBack_7 : decode cX11_goBack 7 = .ok (.ifCond .ne 6, 3) := by decide +kernel
theorem dX11_goBack_10 : decode cX11_goBack 10 = .ok (.ldc 231, 2) := by decide +kernel
theorem dX11_goBack_12 : decode cX11_goBack 12 = .ok (.ireturn, 1) := by decide +kernel
theorem dX11_goBack_13 : decode cX11_goBack 13 = .ok (.aload_n 0, 1) := by decide +kernel
theorem dX11_goBack_14 : decode cX11_goBack 14 = .ok (.getfield 74, 3) := by decide +kernel
theorem dX11_goBack_17 : decode cX11_goBack 17 = .ok (.iload_n 1, 1) := by decide +kernel
theorem dX11_goBack_18 : decode cX11_goBack 18 = .ok (.baload, 1) := by decide +kernel
theorem dX11_goBack_19 : decode cX11_goBack 19 = .ok (.ifCond .ne 6, 3) := by decide +kernel
theorem dX11_goBack_22 : decode cX11_goBack 22 = .ok (.ldc 245, 2) := by decide +kernel
theorem dX11_goBack_24 : decode cX11_goBack 24 = .ok (.ireturn, 1) := by decide +kernel
theorem dX11_goBack_25 : decode cX11_goBack 25 = .ok (.iconst 0, 1) := by decide +kernel
theorem dX11_goBack_26 : decode cX11_goBack 26 = .ok (.istore_n 2, 1) := by decide +kernel
theorem dX11_goBack_27 : decode cX11_goBack 27 = .ok (.iload_n 2, 1) := by decide +kernel
theorem dX11_goBack_28 : decode cX11_goBack 28 = .ok (.bipush 29, 2) := by decide +kernel
theorem dX11_goBack_30 : decode cX11_goBack 30 = .ok (.if_icmp .ge 26, 3) := by decide +kernel
theorem dX11_goBack_33 : decode cX11_goBack 33 = .ok (.aload_n 0, 1) := by decide +kernel
theorem dX11_goBack_34 : decode cX11_goBack 34 = .ok (.getfield 25, 3) := by decide +kernel
theorem dX11_goBack_37 : decode cX11_goBack 37 = .ok (.iload_n 2, 1) := by decide +kernel
theorem dX11_goBack_38 : decode cX11_goBack 38 = .ok (.aload_n 0, 1) := by decide +kernel
theorem dX11_goBack_39 : decode cX11_goBack 39 = .ok (.getfield 71, 3) := by decide +kernel
theorem dX11_goBack_42 : decode cX11_goBack 42 = .ok (.bipush 30, 2) := by decide +kernel
theorem dX11_goBack_44 : decode cX11_goBack 44 = .ok (.iload_n 1, 1) := by decide +kernel
theorem dX11_goBack_45 : decode cX11_goBack 45 = .ok (.imul, 1) := by decide +kernel
theorem dX11_goBack_46 : decode cX11_goBack 46 = .ok (.iload_n 2, 1) := by decide +kernel
theorem dX11_goBack_47 : decode cX11_goBack 47 = .ok (.iadd, 1) := by decide +kernel
theorem dX11_goBack_48 : decode cX11_goBack 48 = .ok (.iaload, 1) := by decide +kernel
theorem dX11_goBack_49 : decode cX11_goBack 49 = .ok (.iastore, 1) := by decide +kernel
theorem dX11_goBack_50 : decode cX11_goBack 50 = .ok (.iinc 2 1, 3) := by decide +kernel
theorem dX11_goBack_53 : decode cX11_goBack 53 = .ok (.goto (-26), 3) := by decide +kernel
theorem dX11_goBack_56 : decode cX11_goBack 56 = .ok (.aload_n 0, 1) := by decide +kernel
theorem dX11_goBack_57 : decode cX11_goBack 57 = .ok (.aload_n 0, 1) := by decide +kernel
theorem dX11_goBack_58 : decode cX11_goBack 58 = .ok (.getfield 71, 3) := by decide +kernel
theorem dX11_goBack_61 : decode cX11_goBack 61 = .ok (.bipush 30, 2) := by decide +kernel
theorem dX11_goBack_63 : decode cX11_goBack 63 = .ok (.iload_n 1, 1) := by decide +kernel
theorem dX11_goBack_64 : decode cX11_goBack 64 = .ok (.imul, 1) := by decide +kernel
theorem dX11_goBack_65 : decode cX11_goBack 65 = .ok (.bipush 29, 2) := by decide +kernel
theorem dX11_goBack_67 : decode cX11_goBack 67 = .ok (.iadd, 1) := by decide +kernel
theorem dX11_goBack_68 : decode cX11_goBack 68 = .ok (.iaload, 1) := by decide +kernel
theorem dX11_goBack_69 : decode cX11_goBack 69 = .ok (.putfield 272, 3) := by decide +kernel
theorem dX11_goBack_72 : decode cX11_goBack 72 = .ok (.aload_n 0, 1) := by decide +kernel
theorem dX11_goBack_73 : decode cX11_goBack 73 = .ok (.iconst 0, 1) := by decide +kernel
theorem dX11_goBack_74 : decode cX11_goBack 74 = .ok (.putfield 176, 3) := by decide +kernel
theorem dX11_goBack_77 : decode cX11_goBack 77 = .ok (.iconst 1, 1) := by decide +kernel
theorem dX11_goBack_78 : decode cX11_goBack 78 = .ok (.ireturn, 1) := by decide +kernel
