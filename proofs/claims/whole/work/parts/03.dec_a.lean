theorem dX0_init_0 : decode cX0_init 0 = .ok (.aload_n 0, 1) := by decide +kernel
theorem dX0_init_1 : decode cX0_init 1 = .ok (.invokespecial 3, 3) := by decide +kernel
theorem dX0_init_4 : decode cX0_init 4 = .ok (.aload_n 0, 1) := by decide +kernel
theorem dX0_init_5 : decode cX0_init 5 = .ok (.iconst 0, 1) := by decide +kernel
theorem dX0_init_6 : decode cX0_init 6 = .ok (.putfield 9, 3) := by decide +kernel
theorem dX0_init_9 : decode cX0_init 9 = .ok (.aload_n 0, 1) := by decide +kernel
theorem dX0_init_10 : decode cX0_init 10 = .ok (.iconst (-1), 1) := by decide +kernel
theorem dX0_init_11 : decode cX0_init 11 = .ok (.putfield 15, 3) := by decide +kernel
theorem dX0_init_14 : decode cX0_init 14 = .ok (.aload_n 0, 1) := by decide +kernel
theorem dX0_init_15 : decode cX0_init 15 = .ok (.bipush 7, 2) := by decide +kernel
theorem dX0_init_17 : decode cX0_init 17 = .ok (.newarray .int, 2) := by decide +kernel
theorem dX0_init_19 : decode cX0_init 19 = .ok (.putfield 18, 3) := by decide +kernel
theorem dX0_init_22 : decode cX0_init 22 = .ok (.return_, 1) := by decide +kernel
theorem dX0_gather_0 : decode cX0_gather 0 = .ok (.aload_n 0, 1) := by decide +kernel
theorem dX0_gather_1 : decode cX0_gather 1 = .ok (.iconst 0, 1) := by decide +kernel
theorem dX0_gather_2 : decode cX0_gather 2 = .ok (.putfield 9, 3) := by decide +kernel
theorem dX0_gather_5 : decode cX0_gather 5 = .ok (.aload_n 0, 1) := by decide +kernel
theorem dX0_gather_6 : decode cX0_gather 6 = .ok (.iconst (-1), 1) := by decide +kernel
theorem dX0_gather_7 : decode cX0_gather 7 = .ok (.putfield 15, 3) := by decide +kernel
theorem dX0_gather_10 : decode cX0_gather 10 = .ok (.iconst 0, 1) := by decide +kernel
theorem dX0_gather_11 : decode cX0_gather 11 = .ok (.istore 4, 2) := by decide +kernel
theorem dX0_gather_13 : decode cX0_gather 13 = .ok (.iload 4, 2) := by decide +kernel
theorem dX0_gather_15 : decode cX0_gather 15 = .ok (.bipush 7, 2) := by decide +kernel
theorem dX0_gather_17 : decode cX0_gather 17 = .ok (.if_icmp .ge 17, 3) := by decide +kernel
theorem dX0_gather_20 : decode cX0_gather 20 = .ok (.aload_n 0, 1) := by decide +kernel
theorem dX0_gather_21 : decode cX0_gather 21 = .ok (.getfield 18, 3) := by decide +kernel
theorem dX0_gather_24 : decode cX0_gather 24 = .ok (.iload 4, 2) := by decide +kernel
theorem dX0_gather_26 : decode cX0_gather 26 = .ok (.iconst 0, 1) := by decide +kernel
theorem dX0_gather_27 : decode cX0_gather 27 = .ok (.iastore, 1) := by decide +kernel
theorem dX0_gather_28 : decode cX0_gather 28 = .ok (.iinc 4 1, 3) := by decide +kernel
theorem dX0_gather_31 : decode cX0_gather 31 = .ok (.goto (-18), 3) := by decide +kernel
theorem dX0_gather_34 : decode cX0_gather 34 = .ok (.iconst 0, 1) := by decide +kernel
theorem dX0_gather_35 : decode cX0_gather 35 = .ok (.istore 4, 2) := by decide +kernel
theorem dX0_gather_37 : decode cX0_gather 37 = .ok (.iload 4, 2) := by decide +kernel
theorem dX0_gather_39 : decode cX0_gather 39 = .ok (.aload_n 1, 1) := by decide +kernel
theorem dX0_gather_40 : decode cX0_gather 40 = .ok (.invokevirtual 22, 3) := by decide +kernel
theorem dX0_gather_43 : decode cX0_gather 43 = .ok (.if_icmp .gt 25, 3) := by decide +kernel
theorem dX0_gather_46 : decode cX0_gather 46 = .ok (.aload_n 3, 1) := by decide +kernel
theorem dX0_gather_47 : decode cX0_gather 47 = .ok (.iload 4, 2) := by decide +kernel
theorem dX0_gather_49 : decode cX0_gather 49 = .ok (.aload_n 2, 1) := by decide +kernel
theorem dX0_gather_50 : decode cX0_gather 50 = .ok (.invokevirtual 28, 3) := by decide +kernel
theorem dX0_gather_53 : decode cX0_gather 53 = .ok (.ifCond .eq 9, 3) := by decide +kernel
theorem dX0_gather_56 : decode cX0_gather 56 = .ok (.aload_n 0, 1) := by decide +kernel
theorem dX0_gather_57 : decode cX0_gather 57 = .ok (.iload 4, 2) := by decide +kernel
theorem dX0_gather_59 : decode cX0_gather 59 = .ok (.invokevirtual 34, 3) := by decide +kernel
theorem dX0_gather_62 : decode cX0_gather 62 = .ok (.iinc 4 1, 3) := by decide +kernel
theorem dX0_gather_65 : decode cX0_gather 65 = .ok (.goto (-28), 3) := by decide +kernel
theorem dX0_gather_68 : decode cX0_gather 68 = .ok (.return_, 1) := by decide +kernel
theorem dX0_add_0 : decode cX0_add 0 = .ok (.aload_n 0, 1) := by decide +kernel
theorem dX0_add_1 : decode cX0_add 1 = .ok (.dup, 1) := by decide +kernel
theorem dX0_add_2 : decode cX0_add 2 = .ok (.getfield 9, 3) := by decide +kernel
theorem dX0_add_5 : decode cX0_add 5 = .ok (.iconst 1, 1) := by decide +kernel
theorem dX0_add_6 : decode cX0_add 6 = .ok (.iadd, 1) := by decide +kernel
theorem dX0_add_7 : decode cX0_add 7 = .ok (.putfield 9, 3) := by decide +kernel
theorem dX0_add_10 : decode cX0_add 10 = .ok (.aload_n 0, 1) := by decide +kernel
theorem dX0_add_11 : decode cX0_add 11 = .ok (.dup, 1) := by decide +kernel
theorem dX0_add_12 : decode cX0_add 12 = .ok (.getfield 15, 3) := by decide +kernel
theorem dX0_add_15 : decode cX0_add 15 = .ok (.iload_n 1, 1) := by decide +kernel
theorem dX0_add_16 : decode cX0_add 16 = .ok (.iand, 1) := by decide +kernel
theorem dX0_add_17 : decode cX0_add 17 = .ok (.putfield 15, 3) := by decide +kernel
theorem dX0_add_20 : decode cX0_add 20 = .ok (.iconst 0, 1) := by decide +kernel
theorem dX0_add_21 : decode cX0_add 21 = .ok (.istore_n 2, 1) := by decide +kernel
theorem dX0_add_22 : decode cX0_add 22 = .ok (.iload_n 2, 1) := by decide +kernel
theorem dX0_add_23 : decode cX0_add 23 = .ok (.bipush 7, 2) := by decide +kernel
theorem dX0_add_25 : decode cX0_add 25 = .ok (.if_icmp .ge 23, 3) := by decide +kernel
theorem dX0_add_28 : decode cX0_add 28 = .ok (.aload_n 0, 1) := by decide +kernel
theorem dX0_add_29 : decode cX0_add 29 = .ok (.getfield 18, 3) := by decide +kernel
theorem dX0_add_32 : decode cX0_add 32 = .ok (.iload_n 2, 1) := by decide +kernel
theorem dX0_add_33 : decode cX0_add 33 = .ok (.dup2, 1) := by decide +kernel
theorem dX0_add_34 : decode cX0_add 34 = .ok (.iaload, 1) := by decide +kernel
theorem dX0_add_35 : decode cX0_add 35 = .ok (.iload_n 1, 1) := by decide +kernel
theorem dX0_add_36 : decode cX0_add 36 = .ok (.iload_n 2, 1) := by decide +kernel
theorem dX0_add_37 : decode cX0_add 37 = .ok (.ishr, 1) := by decide +kernel
theorem dX0_add_38 : decode cX0_add 38 = .ok (.iconst 1, 1) := by decide +kernel
theorem dX0_add_39 : decode cX0_add 39 = .ok (.iand, 1) := by decide +kernel
theorem dX0_add_40 : decode cX0_add 40 = .ok (.iadd, 1) := by decide +kernel
theorem dX0_add_41 : decode cX0_add 41 = .ok (.iastore, 1) := by decide +kernel
theorem dX0_add_42 : decode cX0_add 42 = .ok (.iinc 2 1, 3) := by decide +kernel
theorem dX0_add_45 : decode cX0_add 45 = .ok (.goto (-23), 3) := by decide +kernel
theorem dX0_add_48 : decode cX0_add 48 = .ok (.return_, 1) := by decide +kernel
theorem dX0_bestLip_0 : decode cX0_bestLip 0 = .ok (.iconst (-1), 1) := by decide +kernel
theorem dX0_bestLip_1 : decode cX0_bestLip 1 = .ok (.istore_n 2, 1) := by decide +kernel
theorem dX0_bestLip_2 : decode cX0_bestLip 2 = .ok (.aload_n 0, 1) := by decide +kernel
theorem dX0_bestLip_3 : decode cX0_bestLip 3 = .ok (.getfield 9, 3) := by decide +kernel
theorem dX0_bestLip_6 : decode cX0_bestLip 6 = .ok (.istore_n 3, 1) := by decide +kernel
theorem dX0_bestLip_7 : decode cX0_bestLip 7 = .ok (.iconst 0, 1) := by decide +kernel
theorem dX0_bestLip_8 : decode cX0_bestLip 8 = .ok (.istore 4, 2) := by decide +kernel
theorem dX0_bestLip_10 : decode cX0_bestLip 10 = .ok (.iload 4, 2) := by decide +kernel
theorem dX0_bestLip_12 : decode cX0_bestLip 12 = .ok (.aload_n 1, 1) := by decide +kernel
theorem dX0_bestLip_13 : decode cX0_bestLip 13 = .ok (.getfield 38, 3) := by decide +kernel
theorem dX0_bestLip_16 : decode cX0_bestLip 16 = .ok (.if_icmp .ge 45, 3) := by decide +kernel
theorem dX0_bestLip_19 : decode cX0_bestLip 19 = .ok (.aload_n 0, 1) := by decide +kernel
theorem dX0_bestLip_20 : decode cX0_bestLip 20 = .ok (.getfield 18, 3) := by decide +kernel
theorem dX0_bestLip_23 : decode cX0_bestLip 23 = .ok (.iload 4, 2) := by decide +kernel
theorem dX0_bestLip_25 : decode cX0_bestLip 25 = .ok (.iaload, 1) := by decide +kernel
theorem dX0_bestLip_26 : decode cX0_bestLip 26 = .ok (.aload_n 0, 1) := by decide +kernel
theorem dX0_bestLip_27 : decode cX0_bestLip 27 = .ok (.getfield 9, 3) := by decide +kernel
theorem dX0_bestLip_30 : decode cX0_bestLip 30 = .ok (.aload_n 0, 1) := by decide +kernel
theorem dX0_bestLip_31 : decode cX0_bestLip 31 = .ok (.getfield 18, 3) := by decide +kernel
theorem dX0_bestLip_34 : decode cX0_bestLip 34 = .ok (.iload 4, 2) := by decide +kernel
theorem dX0_bestLip_36 : decode cX0_bestLip 36 = .ok (.iaload, 1) := by decide +kernel
theorem dX0_bestLip_37 : decode cX0_bestLip 37 = .ok (.isub, 1) := by decide +kernel
theorem dX0_bestLip_38 : decode cX0_bestLip 38 = .ok (.invokestatic 41, 3) := by decide +kernel
theorem dX0_bestLip_41 : decode cX0_bestLip 41 = .ok (.istore 5, 2) := by decide +kernel
theorem dX0_bestLip_43 : decode cX0_bestLip 43 = .ok (.iload 5, 2) := by decide +kernel
theorem dX0_bestLip_45 : decode cX0_bestLip 45 = .ok (.iload_n 3, 1) := by decide +kernel
theorem dX0_bestLip_46 : decode cX0_bestLip 46 = .ok (.if_icmp .ge 9, 3) := by decide +kernel
theorem dX0_bestLip_49 : decode cX0_bestLip 49 = .ok (.iload 4, 2) := by decide +kernel
theorem dX0_bestLip_51 : decode cX0_bestLip 51 = .ok (.istore_n 2, 1) := by decide +kernel
theorem dX0_bestLip_52 : decode cX0_bestLip 52 = .ok (.iload 5, 2) := by decide +kernel
theorem dX0_bestLip_54 : decode cX0_bestLip 54 = .ok (.istore_n 3, 1) := by decide +kernel
theorem dX0_bestLip_55 : decode cX0_bestLip 55 = .ok (.iinc 4 1, 3) := by decide +kernel
theorem dX0_bestLip_58 : decode cX0_bestLip 58 = .ok (.goto (-48), 3) := by decide +kernel
theorem dX0_bestLip_61 : decode cX0_bestLip 61 = .ok (.iload_n 2, 1) := by decide +kernel
theorem dX0_bestLip_62 : decode cX0_bestLip 62 = .ok (.ireturn, 1) := by decide +kernel
theorem dX1_init_0 : decode cX1_init 0 = .ok (.aload_n 0, 1) := by decide +kernel
theorem dX1_init_1 : decode cX1_init 1 = .ok (.invokespecial 1, 3) := by decide +kernel
theorem dX1_init_4 : decode cX1_init 4 = .ok (.aload_n 0, 1) := by decide +kernel
theorem dX1_init_5 : decode cX1_init 5 = .ok (.iconst 0, 1) := by decide +kernel
theorem dX1_init_6 : decode cX1_init 6 = .ok (.putfield 7, 3) := by decide +kernel
theorem dX1_init_9 : decode cX1_init 9 = .ok (.return_, 1) := by decide +kernel
theorem dX1_draw_0 : decode cX1_draw 0 = .ok (.aload_n 0, 1) := by decide +kernel
theorem dX1_draw_1 : decode cX1_draw 1 = .ok (.aload_n 0, 1) := by decide +kernel
theorem dX1_draw_2 : decode cX1_draw 2 = .ok (.getfield 7, 3) := by decide +kernel
theorem dX1_draw_5 : decode cX1_draw 5 = .ok (.i2l, 1) := by decide +kernel
theorem dX1_draw_6 : decode cX1_draw 6 = .ok (.ldc2_w 13, 3) := by decide +kernel
theorem dX1_draw_9 : decode cX1_draw 9 = .ok (.lmul, 1) := by decide +kernel
theorem dX1_draw_10 : decode cX1_draw 10 = .ok (.ldc2_w 15, 3) := by decide +kernel
theorem dX1_draw_13 : decode cX1_draw 13 = .ok (.ladd, 1) := by decide +kernel
theorem dX1_draw_14 : decode cX1_draw 14 = .ok (.ldc2_w 17, 3) := by decide +kernel
theorem dX1_draw_17 : decode cX1_draw 17 = .ok (.land, 1) := by decide +kernel
theorem dX1_draw_18 : decode cX1_draw 18 = .ok (.l2i, 1) := by decide +kernel
theorem dX1_draw_19 : decode cX1_draw 19 = .ok (.putfield 7, 3) := by decide +kernel
theorem dX1_draw_22 : decode cX1_draw 22 = .ok (.iload_n 1, 1) := by decide +kernel
theorem dX1_draw_23 : decode cX1_draw 23 = .ok (.ifCond .le 15, 3) := by decide +kernel
theorem dX1_draw_26 : decode cX1_draw 26 = .ok (.aload_n 0, 1) := by decide +kernel
theorem dX1_draw_27 : decode cX1_draw 27 = .ok (.getfield 7, 3) := by decide +kernel
theorem dX1_draw_30 : decode cX1_draw 30 = .ok (.ldc 19, 2) := by decide +kernel
theorem dX1_draw_32 : decode cX1_draw 32 = .ok (.idiv, 1) := by decide +kernel
theorem dX1_draw_33 : decode cX1_draw 33 = .ok (.iload_n 1, 1) := by decide +kernel
theorem dX1_draw_34 : decode cX1_draw 34 = .ok (.irem, 1) := by decide +kernel
theorem dX1_draw_35 : decode cX1_draw 35 = .ok (.goto 4, 3) := by decide +kernel
theorem dX1_draw_38 : decode cX1_draw 38 = .ok (.iconst 0, 1) := by decide +kernel
theorem dX1_draw_39 : decode cX1_draw 39 = .ok (.ireturn, 1) := by decide +kernel
theorem dX2_init_0 : decode cX2_init 0 = .ok (.aload_n 0, 1) := by decide +kernel
theorem dX2_init_1 : decode cX2_init 1 = .ok (.invokespecial 3, 3) := by decide +kernel
theorem dX2_init_4 : decode cX2_init 4 = .ok (.aload_n 0, 1) := by decide +kernel
theorem dX2_init_5 : decode cX2_init 5 = .ok (.bipush 7, 2) := by decide +kernel
theorem dX2_init_7 : decode cX2_init 7 = .ok (.newarray .int, 2) := by decide +kernel
theorem dX2_init_9 : decode cX2_init 9 = .ok (.putfield 9, 3) := by decide +kernel
theorem dX2_init_12 : decode cX2_init 12 = .ok (.aload_n 0, 1) := by decide +kernel
theorem dX2_init_13 : decode cX2_init 13 = .ok (.sipush 4096, 3) := by decide +kernel
theorem dX2_init_16 : decode cX2_init 16 = .ok (.newarray .int, 2) := by decide +kernel
theorem dX2_init_18 : decode cX2_init 18 = .ok (.putfield 15, 3) := by decide +kernel
theorem dX2_init_21 : decode cX2_init 21 = .ok (.aload_n 0, 1) := by decide +kernel
theorem dX2_init_22 : decode cX2_init 22 = .ok (.bipush 7, 2) := by decide +kernel
theorem dX2_init_24 : decode cX2_init 24 = .ok (.newarray .int, 2) := by decide +kernel
theorem dX2_init_26 : decode cX2_init 26 = .ok (.putfield 18, 3) := by decide +kernel
theorem dX2_init_29 : decode cX2_init 29 = .ok (.aload_n 0, 1) := by decide +kernel
theorem dX2_init_30 : decode cX2_init 30 = .ok (.iconst 0, 1) := by decide +kernel
theorem dX2_init_31 : decode cX2_init 31 = .ok (.putfield 21, 3) := by decide +kernel
theorem dX2_init_34 : decode cX2_init 34 = .ok (.aload_n 0, 1) := by decide +kernel
theorem dX2_init_35 : decode cX2_init 35 = .ok (.iconst 0, 1) := by decide +kernel
theorem dX2_init_36 : decode cX2_init 36 = .ok (.putfield 25, 3) := by decide +kernel
theorem dX2_init_39 : decode cX2_init 39 = .ok (.aload_n 0, 1) := by decide +kernel
theorem dX2_init_40 : decode cX2_init 40 = .ok (.aload_n 1, 1) := by decide +kernel
theorem dX2_init_41 : decode cX2_init 41 = .ok (.putfield 28, 3) := by decide +kernel
theorem dX2_init_44 : decode cX2_init 44 = .ok (.return_, 1) := by decide +kernel
theorem dX2_group_0 : decode cX2_group 0 = .ok (.aload_n 0, 1) := by decide +kernel
theorem dX2_group_1 : decode cX2_group 1 = .ok (.iconst 0, 1) := by decide +kernel
theorem dX2_group_2 : decode cX2_group 2 = .ok (.putfield 21, 3) := by decide +kernel
theorem dX2_group_5 : decode cX2_group 5 = .ok (.iconst 0, 1) := by decide +kernel
theorem dX2_group_6 : decode cX2_group 6 = .ok (.istore_n 3, 1) := by decide +kernel
theorem dX2_group_7 : decode cX2_group 7 = .ok (.iload_n 3, 1) := by decide +kernel
theorem dX2_group_8 : decode cX2_group 8 = .ok (.aload_n 0, 1) := by decide +kernel
theorem dX2_group_9 : decode cX2_group 9 = .ok (.getfield 28, 3) := by decide +kernel
theorem dX2_group_12 : decode cX2_group 12 = .ok (.getfield 32, 3) := by decide +kernel
theorem dX2_group_15 : decode cX2_group 15 = .ok (.if_icmp .ge 44, 3) := by decide +kernel
theorem dX2_group_18 : decode cX2_group 18 = .ok (.aload_n 0, 1) := by decide +kernel
theorem dX2_group_19 : decode cX2_group 19 = .ok (.getfield 18, 3) := by decide +kernel
theorem dX2_group_22 : decode cX2_group 22 = .ok (.iload_n 3, 1) := by decide +kernel
theorem dX2_group_23 : decode cX2_group 23 = .ok (.iconst (-1), 1) := by decide +kernel
theorem dX2_group_24 : decode cX2_group 24 = .ok (.iastore, 1) := by decide +kernel
theorem dX2_group_25 : decode cX2_group 25 = .ok (.iload_n 3, 1) := by decide +kernel
theorem dX2_group_26 : decode cX2_group 26 = .ok (.iload_n 1, 1) := by decide +kernel
theorem dX2_group_27 : decode cX2_group 27 = .ok (.invokestatic 37, 3) := by decide +kernel
theorem dX2_group_30 : decode cX2_group 30 = .ok (.ifCond .eq 23, 3) := by decide +kernel
theorem dX2_group_33 : decode cX2_group 33 = .ok (.aload_n 0, 1) := by decide +kernel
theorem dX2_group_34 : decode cX2_group 34 = .ok (.getfield 9, 3) := by decide +kernel
theorem dX2_group_37 : decode cX2_group 37 = .ok (.aload_n 0, 1) := by decide +kernel
theorem dX2_group_38 : decode cX2_group 38 = .ok (.getfield 21, 3) := by decide +kernel
theorem dX2_group_41 : decode cX2_group 41 = .ok (.iload_n 3, 1) := by decide +kernel
theorem dX2_group_42 : decode cX2_group 42 = .ok (.iastore, 1) := by decide +kernel
theorem dX2_group_43 : decode cX2_group 43 = .ok (.aload_n 0, 1) := by decide +kernel
theorem dX2_group_44 : decode cX2_group 44 = .ok (.dup, 1) := by decide +kernel
theorem dX2_group_45 : decode cX2_group 45 = .ok (.getfield 21, 3) := by decide +kernel
theorem dX2_group_48 : decode cX2_group 48 = .ok (.iconst 1, 1) := by decide +kernel
theorem dX2_group_49 : decode cX2_group 49 = .ok (.iadd, 1) := by decide +kernel
theorem dX2_group_50 : decode cX2_group 50 = .ok (.putfield 21, 3) := by decide +kernel
theorem dX2_group_53 : decode cX2_group 53 = .ok (.iinc 3 1, 3) := by decide +kernel
theorem dX2_group_56 : decode cX2_group 56 = .ok (.goto (-49), 3) := by decide +kernel
theorem dX2_group_59 : decode cX2_group 59 = .ok (.iconst 1, 1) := by decide +kernel
theorem dX2_group_60 : decode cX2_group 60 = .ok (.iconst 3, 1) := by decide +kernel
theorem dX2_group_61 : decode cX2_group 61 = .ok (.aload_n 0, 1) := by decide +kernel
theorem dX2_group_62 : decode cX2_group 62 = .ok (.getfield 28, 3) := by decide +kernel
theorem dX2_group_65 : decode cX2_group 65 = .ok (.getfield 41, 3) := by decide +kernel
theorem dX2_group_68 : decode cX2_group 68 = .ok (.imul, 1) := by decide +kernel
theorem dX2_group_69 : decode cX2_group 69 = .ok (.ishl, 1) := by decide +kernel
theorem dX2_group_70 : decode cX2_group 70 = .ok (.iconst 1, 1) := by decide +kernel
theorem dX2_group_71 : decode cX2_group 71 = .ok (.isub, 1) := by decide +kernel
theorem dX2_group_72 : decode cX2_group 72 = .ok (.istore_n 3, 1) := by decide +kernel
theorem dX2_group_73 : decode cX2_group 73 = .ok (.iload_n 3, 1) := by decide +kernel
theorem dX2_group_74 : decode cX2_group 74 = .ok (.ifCond .lt 21, 3) := by decide +kernel
theorem dX2_group_77 : decode cX2_group 77 = .ok (.aload_n 0, 1) := by decide +kernel
theorem dX2_group_78 : decode cX2_group 78 = .ok (.getfield 15, 3) := by decide +kernel
theorem dX2_group_81 : decode cX2_group 81 = .ok (.iload_n 3, 1) := by decide +kernel
theorem dX2_group_82 : decode cX2_group 82 = .ok (.aload_n 0, 1) := by decide +kernel
theorem dX2_group_83 : decode cX2_group 83 = .ok (.iload_n 3, 1) := by decide +kernel
theorem dX2_group_84 : decode cX2_group 84 = .ok (.aload_n 2, 1) := by decide +kernel
theorem dX2_group_85 : decode cX2_group 85 = .ok (.invokevirtual 44, 3) := by decide +kernel
theorem dX2_group_88 : decode cX2_group 88 = .ok (.iastore, 1) := by decide +kernel
theorem dX2_group_89 : decode cX2_group 89 = .ok (.iinc 3 (-1), 3) := by decide +kernel
theorem dX2_group_92 : decode cX2_group 92 = .ok (.goto (-19), 3) := by decide +kernel
theorem dX2_group_95 : decode cX2_group 95 = .ok (.aload_n 0, 1) := by decide +kernel
theorem dX2_group_96 : decode cX2_group 96 = .ok (.aload_n 0, 1) := by decide +kernel
theorem dX2_group_97 : decode cX2_group 97 = .ok (.getfield 15, 3) := by decide +kernel
theorem dX2_group_100 : decode cX2_group 100 = .ok (.iconst 0, 1) := by decide +kernel
theorem dX2_group_101 : decode cX2_group 101 = .ok (.iaload, 1) := by decide +kernel
theorem dX2_group_102 : decode cX2_group 102 = .ok (.putfield 25, 3) := by decide +kernel
theorem dX2_group_105 : decode cX2_group 105 = .ok (.iconst 0, 1) := by decide +kernel
theorem dX2_group_106 : decode cX2_group 106 = .ok (.istore_n 3, 1) := by decide +kernel
theorem dX2_group_107 : decode cX2_group 107 = .ok (.iconst 0, 1) := by decide +kernel
theorem dX2_group_108 : decode cX2_group 108 = .ok (.istore 4, 2) := by decide +kernel
theorem dX2_group_110 : decode cX2_group 110 = .ok (.iload 4, 2) := by decide +kernel
theorem dX2_group_112 : decode cX2_group 112 = .ok (.aload_n 0, 1) := by decide +kernel
theorem dX2_group_113 : decode cX2_group 113 = .ok (.getfield 21, 3) := by decide +kernel
theorem dX2_group_116 : decode cX2_group 116 = .ok (.if_icmp .ge 40, 3) := by decide +kernel
theorem dX2_group_119 : decode cX2_group 119 = .ok (.aload_n 0, 1) := by decide +kernel
theorem dX2_group_120 : decode cX2_group 120 = .ok (.iload_n 3, 1) := by decide +kernel
theorem dX2_group_121 : decode cX2_group 121 = .ok (.aload_n 2, 1) := by decide +kernel
theorem dX2_group_122 : decode cX2_group 122 = .ok (.invokevirtual 48, 3) := by decide +kernel
theorem dX2_group_125 : decode cX2_group 125 = .ok (.istore 5, 2) := by decide +kernel
theorem dX2_group_127 : decode cX2_group 127 = .ok (.aload_n 0, 1) := by decide +kernel
theorem dX2_group_128 : decode cX2_group 128 = .ok (.getfield 18, 3) := by decide +kernel
theorem dX2_group_131 : decode cX2_group 131 = .ok (.aload_n 0, 1) := by decide +kernel
theorem dX2_group_132 : decode cX2_group 132 = .ok (.getfield 9, 3) := by decide +kernel
theorem dX2_group_135 : decode cX2_group 135 = .ok (.iload 4, 2) := by decide +kernel
theorem dX2_group_137 : decode cX2_group 137 = .ok (.iaload, 1) := by decide +kernel
theorem dX2_group_138 : decode cX2_group 138 = .ok (.iload 5, 2) := by decide +kernel
theorem dX2_group_140 : decode cX2_group 140 = .ok (.iastore, 1) := by decide +kernel
theorem dX2_group_141 : decode cX2_group 141 = .ok (.iload_n 3, 1) := by decide +kernel
theorem dX2_group_142 : decode cX2_group 142 = .ok (.iconst 1, 1) := by decide +kernel
theorem dX2_group_143 : decode cX2_group 143 = .ok (.iconst 3, 1) := by decide +kernel
theorem dX2_group_144 : decode cX2_group 144 = .ok (.iload 5, 2) := by decide +kernel
theorem dX2_group_146 : decode cX2_group 146 = .ok (.imul, 1) := by decide +kernel
theorem dX2_group_147 : decode cX2_group 147 = .ok (.ishl, 1) := by decide +kernel
theorem dX2_group_148 : decode cX2_group 148 = .ok (.iadd, 1) := by decide +kernel
theorem dX2_group_149 : decode cX2_group 149 = .ok (.istore_n 3, 1) := by decide +kernel
theorem dX2_group_150 : decode cX2_group 150 = .ok (.iinc 4 1, 3) := by decide +kernel
theorem dX2_group_153 : decode cX2_group 153 = .ok (.goto (-43), 3) := by decide +kernel
theorem dX2_group_156 : decode cX2_group 156 = .ok (.return_, 1) := by decide +kernel
theorem dX2_leastFrom_0 : decode cX2_leastFrom 0 = .ok (.iload_n 1, 1) := by decide +kernel
theorem dX2_leastFrom_1 : decode cX2_leastFrom 1 = .ok (.invokestatic 51, 3) := by decide +kernel
theorem dX2_leastFrom_4 : decode cX2_leastFrom 4 = .ok (.istore_n 3, 1) := by decide +kernel
theorem dX2_leastFrom_5 : decode cX2_leastFrom 5 = .ok (.iload_n 3, 1) := by decide +kernel
theorem dX2_leastFrom_6 : decode cX2_leastFrom 6 = .ok (.aload_n 0, 1) := by decide +kernel
theorem dX2_leastFrom_7 : decode cX2_leastFrom 7 = .ok (.getfield 21, 3) := by decide +kernel
theorem dX2_leastFrom_10 : decode cX2_leastFrom 10 = .ok (.if_icmp .lt 18, 3) := by decide +kernel
theorem dX2_leastFrom_13 : decode cX2_leastFrom 13 = .ok (.iload_n 3, 1) := by decide +kernel
theorem dX2_leastFrom_14 : decode cX2_leastFrom 14 = .ok (.aload_n 0, 1) := by decide +kernel
theorem dX2_leastFrom_15 : decode cX2_leastFrom 15 = .ok (.getfield 21, 3) := by decide +kernel
theorem dX2_leastFrom_18 : decode cX2_leastFrom 18 = .ok (.if_icmp .ne 7, 3) := by decide +kernel
theorem dX2_leastFrom_21 : decode cX2_leastFrom 21 = .ok (.iconst 0, 1) := by decide +kernel
theorem dX2_leastFrom_22 : decode cX2_leastFrom 22 = .ok (.goto 5, 3) := by decide +kernel
theorem dX2_leastFrom_25 : decode cX2_leastFrom 25 = .ok (.ldc 55, 2) := by decide +kernel
theorem dX2_leastFrom_27 : decode cX2_leastFrom 27 = .ok (.ireturn, 1) := by decide +kernel
theorem dX2_leastFrom_28 : decode cX2_leastFrom 28 = .ok (.aload_n 0, 1) := by decide +kernel
theorem dX2_leastFrom_29 : decode cX2_leastFrom 29 = .ok (.iload_n 1, 1) := by decide +kernel
theorem dX2_leastFrom_30 : decode cX2_leastFrom 30 = .ok (.aload_n 0, 1) := by decide +kernel
theorem dX2_leastFrom_31 : decode cX2_leastFrom 31 = .ok (.iload_n 1, 1) := by decide +kernel
theorem dX2_leastFrom_32 : decode cX2_leastFrom 32 = .ok (.aload_n 2, 1) := by decide +kernel
theorem dX2_leastFrom_33 : decode cX2_leastFrom 33 = .ok (.invokevirtual 48, 3) := by decide +kernel
theorem dX2_leastFrom_36 : decode cX2_leastFrom 36 = .ok (.aload_n 2, 1) := by decide +kernel
theorem dX2_leastFrom_37 : decode cX2_leastFrom 37 = .ok (.invokevirtual 56, 3) := by decide +kernel
theorem dX2_leastFrom_40 : decode cX2_leastFrom 40 = .ok (.ireturn, 1) := by decide +kernel
theorem dX2_bestPlace_0 : decode cX2_bestPlace 0 = .ok (.iconst 0, 1) := by decide +kernel
theorem dX2_bestPlace_1 : decode cX2_bestPlace 1 = .ok (.istore_n 3, 1) := by decide +kernel
theorem dX2_bestPlace_2 : decode cX2_bestPlace 2 = .ok (.aload_n 0, 1) := by decide +kernel
theorem dX2_bestPlace_3 : decode cX2_bestPlace 3 = .ok (.iload_n 1, 1) := by decide +kernel
theorem dX2_bestPlace_4 : decode cX2_bestPlace 4 = .ok (.iconst 0, 1) := by decide +kernel
theorem dX2_bestPlace_5 : decode cX2_bestPlace 5 = .ok (.aload_n 2, 1) := by decide +kernel
theorem dX2_bestPlace_6 : decode cX2_bestPlace 6 = .ok (.invokevirtual 56, 3) := by decide +kernel
theorem dX2_bestPlace_9 : decode cX2_bestPlace 9 = .ok (.istore 4, 2) := by decide +kernel
theorem dX2_bestPlace_11 : decode cX2_bestPlace 11 = .ok (.iconst 1, 1) := by decide +kernel
theorem dX2_bestPlace_12 : decode cX2_bestPlace 12 = .ok (.istore 5, 2) := by decide +kernel
theorem dX2_bestPlace_14 : decode cX2_bestPlace 14 = .ok (.iload 5, 2) := by decide +kernel
theorem dX2_bestPlace_16 : decode cX2_bestPlace 16 = .ok (.aload_n 0, 1) := by decide +kernel
theorem dX2_bestPlace_17 : decode cX2_bestPlace 17 = .ok (.getfield 28, 3) := by decide +kernel
theorem dX2_bestPlace_20 : decode cX2_bestPlace 20 = .ok (.getfield 41, 3) := by decide +kernel
theorem dX2_bestPlace_23 : decode cX2_bestPlace 23 = .ok (.if_icmp .ge 33, 3) := by decide +kernel
theorem dX2_bestPlace_26 : decode cX2_bestPlace 26 = .ok (.aload_n 0, 1) := by decide +kernel
theorem dX2_bestPlace_27 : decode cX2_bestPlace 27 = .ok (.iload_n 1, 1) := by decide +kernel
theorem dX2_bestPlace_28 : decode cX2_bestPlace 28 = .ok (.iload 5, 2) := by decide +kernel
theorem dX2_bestPlace_30 : decode cX2_bestPlace 30 = .ok (.aload_n 2, 1) := by decide +kernel
theorem dX2_bestPlace_31 : decode cX2_bestPlace 31 = .ok (.invokevirtual 56, 3) := by decide +kernel
theorem dX2_bestPlace_34 : decode cX2_bestPlace 34 = .ok (.istore 6, 2) := by decide +kernel
theorem dX2_bestPlace_36 : decode cX2_bestPlace 36 = .ok (.iload 6, 2) := by decide +kernel
theorem dX2_bestPlace_38 : decode cX2_bestPlace 38 = .ok (.iload 4, 2) := by decide +kernel
theorem dX2_bestPlace_40 : decode cX2_bestPlace 40 = .ok (.if_icmp .ge 10, 3) := by decide +kernel
theorem dX2_bestPlace_43 : decode cX2_bestPlace 43 = .ok (.iload 5, 2) := by decide +kernel
theorem dX2_bestPlace_45 : decode cX2_bestPlace 45 = .ok (.istore_n 3, 1) := by decide +kernel
theorem dX2_bestPlace_46 : decode cX2_bestPlace 46 = .ok (.iload 6, 2) := by decide +kernel
theorem dX2_bestPlace_48 : decode cX2_bestPlace 48 = .ok (.istore 4, 2) := by decide +kernel
theorem dX2_bestPlace_50 : decode cX2_bestPlace 50 = .ok (.iinc 5 1, 3) := by decide +kernel
theorem dX2_bestPlace_53 : decode cX2_bestPlace 53 = .ok (.goto (-39), 3) := by decide +kernel
theorem dX2_bestPlace_56 : decode cX2_bestPlace 56 = .ok (.iload_n 3, 1) := by decide +kernel
theorem dX2_bestPlace_57 : decode cX2_bestPlace 57 = .ok (.ireturn, 1) := by decide +kernel
theorem dX2_costOf_0 : decode cX2_costOf 0 = .ok (.iload_n 1, 1) := by decide +kernel
theorem dX2_costOf_1 : decode cX2_costOf 1 = .ok (.invokestatic 51, 3) := by decide +kernel
theorem dX2_costOf_4 : decode cX2_costOf 4 = .ok (.istore 4, 2) := by decide +kernel
theorem dX2_costOf_6 : decode cX2_costOf 6 = .ok (.iload_n 1, 1) := by decide +kernel
theorem dX2_costOf_7 : decode cX2_costOf 7 = .ok (.iconst 1, 1) := by decide +kernel
theorem dX2_costOf_8 : decode cX2_costOf 8 = .ok (.iconst 3, 1) := by decide +kernel
theorem dX2_costOf_9 : decode cX2_costOf 9 = .ok (.iload_n 2, 1) := by decide +kernel
theorem dX2_costOf_10 : decode cX2_costOf 10 = .ok (.imul, 1) := by decide +kernel
theorem dX2_costOf_11 : decode cX2_costOf 11 = .ok (.ishl, 1) := by decide +kernel
theorem dX2_costOf_12 : decode cX2_costOf 12 = .ok (.iadd, 1) := by decide +kernel
theorem dX2_costOf_13 : decode cX2_costOf 13 = .ok (.istore 5, 2) := by decide +kernel
theorem dX2_costOf_15 : decode cX2_costOf 15 = .ok (.iload 4, 2) := by decide +kernel
theorem dX2_costOf_17 : decode cX2_costOf 17 = .ok (.aload_n 0, 1) := by decide +kernel
theorem dX2_costOf_18 : decode cX2_costOf 18 = .ok (.getfield 21, 3) := by decide +kernel
theorem dX2_costOf_21 : decode cX2_costOf 21 = .ok (.if_icmp .ge 11, 3) := by decide +kernel
theorem dX2_costOf_24 : decode cX2_costOf 24 = .ok (.iload 5, 2) := by decide +kernel
theorem dX2_costOf_26 : decode cX2_costOf 26 = .ok (.sipush 4096, 3) := by decide +kernel
theorem dX2_costOf_29 : decode cX2_costOf 29 = .ok (.if_icmp .lt 6, 3) := by decide +kernel
theorem dX2_costOf_32 : decode cX2_costOf 32 = .ok (.ldc 55, 2) := by decide +kernel
theorem dX2_costOf_34 : decode cX2_costOf 34 = .ok (.ireturn, 1) := by decide +kernel
theorem dX2_costOf_35 : decode cX2_costOf 35 = .ok (.iload_n 1, 1) := by decide +kernel
theorem dX2_costOf_36 : decode cX2_costOf 36 = .ok (.iconst 3, 1) := by decide +kernel
theorem dX2_costOf_37 : decode cX2_costOf 37 = .ok (.iload_n 2, 1) := by decide +kernel
theorem dX2_costOf_38 : decode cX2_costOf 38 = .ok (.imul, 1) := by decide +kernel
theorem dX2_costOf_39 : decode cX2_costOf 39 = .ok (.ishr, 1) := by decide +kernel
theorem dX2_costOf_40 : decode cX2_costOf 40 = .ok (.bipush 7, 2) := by decide +kernel
theorem dX2_costOf_42 : decode cX2_costOf 42 = .ok (.iand, 1) := by decide +kernel
theorem dX2_costOf_43 : decode cX2_costOf 43 = .ok (.istore 6, 2) := by decide +kernel
theorem dX2_costOf_45 : decode cX2_costOf 45 = .ok (.aload_n 3, 1) := by decide +kernel
theorem dX2_costOf_46 : decode cX2_costOf 46 = .ok (.aload_n 3, 1) := by decide +kernel
theorem dX2_costOf_47 : decode cX2_costOf 47 = .ok (.getfield 60, 3) := by decide +kernel
theorem dX2_costOf_50 : decode cX2_costOf 50 = .ok (.aload_n 0, 1) := by decide +kernel
theorem dX2_costOf_51 : decode cX2_costOf 51 = .ok (.getfield 9, 3) := by decide +kernel
theorem dX2_costOf_54 : decode cX2_costOf 54 = .ok (.iload 4, 2) := by decide +kernel
theorem dX2_costOf_56 : decode cX2_costOf 56 = .ok (.iaload, 1) := by decide +kernel
theorem dX2_costOf_57 : decode cX2_costOf 57 = .ok (.iload 6, 2) := by decide +kernel
theorem dX2_costOf_59 : decode cX2_costOf 59 = .ok (.iload_n 2, 1) := by decide +kernel
theorem dX2_costOf_60 : decode cX2_costOf 60 = .ok (.invokevirtual 65, 3) := by decide +kernel
theorem dX2_costOf_63 : decode cX2_costOf 63 = .ok (.aload_n 0, 1) := by decide +kernel
theorem dX2_costOf_64 : decode cX2_costOf 64 = .ok (.getfield 15, 3) := by decide +kernel
theorem dX2_costOf_67 : decode cX2_costOf 67 = .ok (.iload 5, 2) := by decide +kernel
theorem dX2_costOf_69 : decode cX2_costOf 69 = .ok (.iaload, 1) := by decide +kernel
theorem dX2_costOf_70 : decode cX2_costOf 70 = .ok (.iadd, 1) := by decide +kernel
theorem dX2_costOf_71 : decode cX2_costOf 71 = .ok (.ireturn, 1) := by decide +kernel
theorem dX2_placedIn_0 : decode cX2_placedIn 0 = .ok (.iconst 0, 1) := by decide +kernel
theorem dX2_placedIn_1 : decode cX2_placedIn 1 = .ok (.istore_n 1, 1) := by decide +kernel
theorem dX2_placedIn_2 : decode cX2_placedIn 2 = .ok (.iconst 0, 1) := by decide +kernel
theorem dX2_placedIn_3 : decode cX2_placedIn 3 = .ok (.istore_n 2, 1) := by decide +kernel
theorem dX2_placedIn_4 : decode cX2_placedIn 4 = .ok (.iload_n 2, 1) := by decide +kernel
theorem dX2_placedIn_5 : decode cX2_placedIn 5 = .ok (.iconst 4, 1) := by decide +kernel
theorem dX2_placedIn_6 : decode cX2_placedIn 6 = .ok (.if_icmp .ge 20, 3) := by decide +kernel
theorem dX2_placedIn_9 : decode cX2_placedIn 9 = .ok (.iload_n 1, 1) := by decide +kernel
theorem dX2_placedIn_10 : decode cX2_placedIn 10 = .ok (.iload_n 0, 1) := by decide +kernel
theorem dX2_placedIn_11 : decode cX2_placedIn 11 = .ok (.iconst 3, 1) := by decide +kernel
theorem dX2_placedIn_12 : decode cX2_placedIn 12 = .ok (.iload_n 2, 1) := by decide +kernel
theorem dX2_placedIn_13 : decode cX2_placedIn 13 = .ok (.imul, 1) := by decide +kernel
theorem dX2_placedIn_14 : decode cX2_placedIn 14 = .ok (.ishr, 1) := by decide +kernel
theorem dX2_placedIn_15 : decode cX2_placedIn 15 = .ok (.bipush 7, 2) := by decide +kernel
theorem dX2_placedIn_17 : decode cX2_placedIn 17 = .ok (.iand, 1) := by decide +kernel
theorem dX2_placedIn_18 : decode cX2_placedIn 18 = .ok (.iadd, 1) := by decide +kernel
theorem dX2_placedIn_19 : decode cX2_placedIn 19 = .ok (.istore_n 1, 1) := by decide +kernel
theorem dX2_placedIn_20 : decode cX2_placedIn 20 = .ok (.iinc 2 1, 3) := by decide +kernel
theorem dX2_placedIn_23 : decode cX2_placedIn 23 = .ok (.goto (-19), 3) := by decide +kernel
theorem dX2_placedIn_26 : decode cX2_placedIn 26 = .ok (.iload_n 1, 1) := by decide +kernel
theorem dX2_placedIn_27 : decode cX2_placedIn 27 = .ok (.ireturn, 1) := by decide +kernel
theorem dX3_init_0 : decode cX3_init 0 = .ok (.aload_n 0, 1) := by decide +kernel
theorem dX3_init_1 : decode cX3_init 1 = .ok (.invokespecial 3, 3) := by decide +kernel
theorem dX3_init_4 : decode cX3_init 4 = .ok (.aload_n 0, 1) := by decide +kernel
theorem dX3_init_5 : decode cX3_init 5 = .ok (.iconst 0, 1) := by decide +kernel
theorem dX3_init_6 : decode cX3_init 6 = .ok (.putfield 9, 3) := by decide +kernel
theorem dX3_init_9 : decode cX3_init 9 = .ok (.aload_n 0, 1) := by decide +kernel
theorem dX3_init_10 : decode cX3_init 10 = .ok (.iconst 0, 1) := by decide +kernel
theorem dX3_init_11 : decode cX3_init 11 = .ok (.putfield 15, 3) := by decide +kernel
theorem dX3_init_14 : decode cX3_init 14 = .ok (.aload_n 0, 1) := by decide +kernel
theorem dX3_init_15 : decode cX3_init 15 = .ok (.iconst 0, 1) := by decide +kernel
theorem dX3_init_16 : decode cX3_init 16 = .ok (.putfield 18, 3) := by decide +kernel
theorem dX3_init_19 : decode cX3_init 19 = .ok (.aload_n 0, 1) := by decide +kernel
theorem dX3_init_20 : decode cX3_init 20 = .ok (.iconst 0, 1) := by decide +kernel
theorem dX3_init_21 : decode cX3_init 21 = .ok (.putfield 21, 3) := by decide +kernel
theorem dX3_init_24 : decode cX3_init 24 = .ok (.aload_n 0, 1) := by decide +kernel
theorem dX3_init_25 : decode cX3_init 25 = .ok (.bipush 7, 2) := by decide +kernel
theorem dX3_init_27 : decode cX3_init 27 = .ok (.newarray .int, 2) := by decide +kernel
theorem dX3_init_29 : decode cX3_init 29 = .ok (.putfield 24, 3) := by decide +kernel
theorem dX3_init_32 : decode cX3_init 32 = .ok (.aload_n 0, 1) := by decide +kernel
theorem dX3_init_33 : decode cX3_init 33 = .ok (.bipush 7, 2) := by decide +kernel
theorem dX3_init_35 : decode cX3_init 35 = .ok (.newarray .int, 2) := by decide +kernel
theorem dX3_init_37 : decode cX3_init 37 = .ok (.putfield 28, 3) := by decide +kernel
theorem dX3_init_40 : decode cX3_init 40 = .ok (.aload_n 0, 1) := by decide +kernel
theorem dX3_init_41 : decode cX3_init 41 = .ok (.bipush 7, 2) := by decide +kernel
theorem dX3_init_43 : decode cX3_init 43 = .ok (.newarray .int, 2) := by decide +kernel
theorem dX3_init_45 : decode cX3_init 45 = .ok (.putfield 31, 3) := by decide +kernel
theorem dX3_init_48 : decode cX3_init 48 = .ok (.aload_n 0, 1) := by decide +kernel
theorem dX3_init_49 : decode cX3_init 49 = .ok (.iconst 4, 1) := by decide +kernel
theorem dX3_init_50 : decode cX3_init 50 = .ok (.newarray .int, 2) := by decide +kernel
theorem dX3_init_52 : decode cX3_init 52 = .ok (.putfield 34, 3) := by decide +kernel
theorem dX3_init_55 : decode cX3_init 55 = .ok (.aload_n 0, 1) := by decide +kernel
theorem dX3_init_56 : decode cX3_init 56 = .ok (.aload_n 1, 1) := by decide +kernel
theorem dX3_init_57 : decode cX3_init 57 = .ok (.putfield 37, 3) := by decide +kernel
theorem dX3_init_60 : decode cX3_init 60 = .ok (.return_, 1) := by decide +kernel
theorem dX3_begin_0 : decode cX3_begin 0 = .ok (.aload_n 0, 1) := by decide +kernel
theorem dX3_begin_1 : decode cX3_begin 1 = .ok (.aload_n 0, 1) := by decide +kernel
theorem dX3_begin_2 : decode cX3_begin 2 = .ok (.getfield 37, 3) := by decide +kernel
theorem dX3_begin_5 : decode cX3_begin 5 = .ok (.getfield 41, 3) := by decide +kernel
theorem dX3_begin_8 : decode cX3_begin 8 = .ok (.putfield 9, 3) := by decide +kernel
theorem dX3_begin_11 : decode cX3_begin 11 = .ok (.aload_n 0, 1) := by decide +kernel
theorem dX3_begin_12 : decode cX3_begin 12 = .ok (.iconst 0, 1) := by decide +kernel
theorem dX3_begin_13 : decode cX3_begin 13 = .ok (.putfield 15, 3) := by decide +kernel
theorem dX3_begin_16 : decode cX3_begin 16 = .ok (.aload_n 0, 1) := by decide +kernel
theorem dX3_begin_17 : decode cX3_begin 17 = .ok (.iconst 0, 1) := by decide +kernel
theorem dX3_begin_18 : decode cX3_begin 18 = .ok (.putfield 18, 3) := by decide +kernel
theorem dX3_begin_21 : decode cX3_begin 21 = .ok (.aload_n 0, 1) := by decide +kernel
theorem dX3_begin_22 : decode cX3_begin 22 = .ok (.iconst 0, 1) := by decide +kernel
theorem dX3_begin_23 : decode cX3_begin 23 = .ok (.putfield 21, 3) := by decide +kernel
theorem dX3_begin_26 : decode cX3_begin 26 = .ok (.iconst 0, 1) := by decide +kernel
theorem dX3_begin_27 : decode cX3_begin 27 = .ok (.istore_n 1, 1) := by decide +kernel
theorem dX3_begin_28 : decode cX3_begin 28 = .ok (.iload_n 1, 1) := by decide +kernel
theorem dX3_begin_29 : decode cX3_begin 29 = .ok (.bipush 7, 2) := by decide +kernel
theorem dX3_begin_31 : decode cX3_begin 31 = .ok (.if_icmp .ge 46, 3) := by decide +kernel
theorem dX3_begin_34 : decode cX3_begin 34 = .ok (.aload_n 0, 1) := by decide +kernel
theorem dX3_begin_35 : decode cX3_begin 35 = .ok (.getfield 24, 3) := by decide +kernel
theorem dX3_begin_38 : decode cX3_begin 38 = .ok (.iload_n 1, 1) := by decide +kernel
theorem dX3_begin_39 : decode cX3_begin 39 = .ok (.aload_n 0, 1) := by decide +kernel
theorem dX3_begin_40 : decode cX3_begin 40 = .ok (.getfield 37, 3) := by decide +kernel
theorem dX3_begin_43 : decode cX3_begin 43 = .ok (.getfield 44, 3) := by decide +kernel
theorem dX3_begin_46 : decode cX3_begin 46 = .ok (.iload_n 1, 1) := by decide +kernel
theorem dX3_begin_47 : decode cX3_begin 47 = .ok (.iaload, 1) := by decide +kernel
theorem dX3_begin_48 : decode cX3_begin 48 = .ok (.iastore, 1) := by decide +kernel
theorem dX3_begin_49 : decode cX3_begin 49 = .ok (.aload_n 0, 1) := by decide +kernel
theorem dX3_begin_50 : decode cX3_begin 50 = .ok (.getfield 28, 3) := by decide +kernel
theorem dX3_begin_53 : decode cX3_begin 53 = .ok (.iload_n 1, 1) := by decide +kernel
theorem dX3_begin_54 : decode cX3_begin 54 = .ok (.aload_n 0, 1) := by decide +kernel
theorem dX3_begin_55 : decode cX3_begin 55 = .ok (.getfield 37, 3) := by decide +kernel
theorem dX3_begin_58 : decode cX3_begin 58 = .ok (.getfield 47, 3) := by decide +kernel
theorem dX3_begin_61 : decode cX3_begin 61 = .ok (.iload_n 1, 1) := by decide +kernel
theorem dX3_begin_62 : decode cX3_begin 62 = .ok (.iaload, 1) := by decide +kernel
theorem dX3_begin_63 : decode cX3_begin 63 = .ok (.iastore, 1) := by decide +kernel
theorem dX3_begin_64 : decode cX3_begin 64 = .ok (.aload_n 0, 1) := by decide +kernel
theorem dX3_begin_65 : decode cX3_begin 65 = .ok (.getfield 31, 3) := by decide +kernel
theorem dX3_begin_68 : decode cX3_begin 68 = .ok (.iload_n 1, 1) := by decide +kernel
theorem dX3_begin_69 : decode cX3_begin 69 = .ok (.iconst (-1), 1) := by decide +kernel
theorem dX3_begin_70 : decode cX3_begin 70 = .ok (.iastore, 1) := by decide +kernel
theorem dX3_begin_71 : decode cX3_begin 71 = .ok (.iinc 1 1, 3) := by decide +kernel
theorem dX3_begin_74 : decode cX3_begin 74 = .ok (.goto (-46), 3) := by decide +kernel
theorem dX3_begin_77 : decode cX3_begin 77 = .ok (.aload_n 0, 1) := by decide +kernel
theorem dX3_begin_78 : decode cX3_begin 78 = .ok (.getfield 37, 3) := by decide +kernel
theorem dX3_begin_81 : decode cX3_begin 81 = .ok (.getfield 50, 3) := by decide +kernel
theorem dX3_begin_84 : decode cX3_begin 84 = .ok (.iconst 0, 1) := by decide +kernel
theorem dX3_begin_85 : decode cX3_begin 85 = .ok (.aload_n 0, 1) := by decide +kernel
theorem dX3_begin_86 : decode cX3_begin 86 = .ok (.getfield 34, 3) := by decide +kernel
theorem dX3_begin_89 : decode cX3_begin 89 = .ok (.iconst 0, 1) := by decide +kernel
theorem dX3_begin_90 : decode cX3_begin 90 = .ok (.iconst 4, 1) := by decide +kernel
theorem dX3_begin_91 : decode cX3_begin 91 = .ok (.invokestatic 53, 3) := by decide +kernel
theorem dX3_begin_94 : decode cX3_begin 94 = .ok (.return_, 1) := by decide +kernel
theorem dX3_takeFrom_0 : decode cX3_takeFrom 0 = .ok (.aload_n 0, 1) := by decide +kernel
theorem dX3_takeFrom_1 : decode cX3_takeFrom 1 = .ok (.aload_n 1, 1) := by decide +kernel
theorem dX3_takeFrom_2 : decode cX3_takeFrom 2 = .ok (.getfield 9, 3) := by decide +kernel
theorem dX3_takeFrom_5 : decode cX3_takeFrom 5 = .ok (.putfield 9, 3) := by decide +kernel
theorem dX3_takeFrom_8 : decode cX3_takeFrom 8 = .ok (.aload_n 0, 1) := by decide +kernel
theorem dX3_takeFrom_9 : decode cX3_takeFrom 9 = .ok (.aload_n 1, 1) := by decide +kernel
theorem dX3_takeFrom_10 : decode cX3_takeFrom 10 = .ok (.getfield 15, 3) := by decide +kernel
theorem dX3_takeFrom_13 : decode cX3_takeFrom 13 = .ok (.putfield 15, 3) := by decide +kernel
theorem dX3_takeFrom_16 : decode cX3_takeFrom 16 = .ok (.aload_n 0, 1) := by decide +kernel
theorem dX3_takeFrom_17 : decode cX3_takeFrom 17 = .ok (.aload_n 1, 1) := by decide +kernel
theorem dX3_takeFrom_18 : decode cX3_takeFrom 18 = .ok (.getfield 18, 3) := by decide +kernel
theorem dX3_takeFrom_21 : decode cX3_takeFrom 21 = .ok (.putfield 18, 3) := by decide +kernel
theorem dX3_takeFrom_24 : decode cX3_takeFrom 24 = .ok (.aload_n 0, 1) := by decide +kernel
theorem dX3_takeFrom_25 : decode cX3_takeFrom 25 = .ok (.aload_n 1, 1) := by decide +kernel
theorem dX3_takeFrom_26 : decode cX3_takeFrom 26 = .ok (.getfield 21, 3) := by decide +kernel
theorem dX3_takeFrom_29 : decode cX3_takeFrom 29 = .ok (.putfield 21, 3) := by decide +kernel
theorem dX3_takeFrom_32 : decode cX3_takeFrom 32 = .ok (.aload_n 1, 1) := by decide +kernel
theorem dX3_takeFrom_33 : decode cX3_takeFrom 33 = .ok (.getfield 24, 3) := by decide +kernel
theorem dX3_takeFrom_36 : decode cX3_takeFrom 36 = .ok (.iconst 0, 1) := by decide +kernel
theorem dX3_takeFrom_37 : decode cX3_takeFrom 37 = .ok (.aload_n 0, 1) := by decide +kernel
theorem dX3_takeFrom_38 : decode cX3_takeFrom 38 = .ok (.getfield 24, 3) := by decide +kernel
theorem dX3_takeFrom_41 : decode cX3_takeFrom 41 = .ok (.iconst 0, 1) := by decide +kernel
theorem dX3_takeFrom_42 : decode cX3_takeFrom 42 = .ok (.bipush 7, 2) := by decide +kernel
theorem dX3_takeFrom_44 : decode cX3_takeFrom 44 = .ok (.invokestatic 53, 3) := by decide +kernel
theorem dX3_takeFrom_47 : decode cX3_takeFrom 47 = .ok (.aload_n 1, 1) := by decide +kernel
theorem dX3_takeFrom_48 : decode cX3_takeFrom 48 = .ok (.getfield 28, 3) := by decide +kernel
theorem dX3_takeFrom_51 : decode cX3_takeFrom 51 = .ok (.iconst 0, 1) := by decide +kernel
theorem dX3_takeFrom_52 : decode cX3_takeFrom 52 = .ok (.aload_n 0, 1) := by decide +kernel
theorem dX3_takeFrom_53 : decode cX3_takeFrom 53 = .ok (.getfield 28, 3) := by decide +kernel
theorem dX3_takeFrom_56 : decode cX3_takeFrom 56 = .ok (.iconst 0, 1) := by decide +kernel
theorem dX3_takeFrom_57 : decode cX3_takeFrom 57 = .ok (.bipush 7, 2) := by decide +kernel
theorem dX3_takeFrom_59 : decode cX3_takeFrom 59 = .ok (.invokestatic 53, 3) := by decide +kernel
theorem dX3_takeFrom_62 : decode cX3_takeFrom 62 = .ok (.aload_n 1, 1) := by decide +kernel
theorem dX3_takeFrom_63 : decode cX3_takeFrom 63 = .ok (.getfield 31, 3) := by decide +kernel
theorem dX3_takeFrom_66 : decode cX3_takeFrom 66 = .ok (.iconst 0, 1) := by decide +kernel
theorem dX3_takeFrom_67 : decode cX3_takeFrom 67 = .ok (.aload_n 0, 1) := by decide +kernel
theorem dX3_takeFrom_68 : decode cX3_takeFrom 68 = .ok (.getfield 31, 3) := by decide +kernel
theorem dX3_takeFrom_71 : decode cX3_takeFrom 71 = .ok (.iconst 0, 1) := by decide +kernel
theorem dX3_takeFrom_72 : decode cX3_takeFrom 72 = .ok (.bipush 7, 2) := by decide +kernel
theorem dX3_takeFrom_74 : decode cX3_takeFrom 74 = .ok (.invokestatic 53, 3) := by decide +kernel
theorem dX3_takeFrom_77 : decode cX3_takeFrom 77 = .ok (.aload_n 1, 1) := by decide +kernel
theorem dX3_takeFrom_78 : decode cX3_takeFrom 78 = .ok (.getfield 34, 3) := by decide +kernel
theorem dX3_takeFrom_81 : decode cX3_takeFrom 81 = .ok (.iconst 0, 1) := by decide +kernel
theorem dX3_takeFrom_82 : decode cX3_takeFrom 82 = .ok (.aload_n 0, 1) := by decide +kernel
theorem dX3_takeFrom_83 : decode cX3_takeFrom 83 = .ok (.getfield 34, 3) := by decide +kernel
theorem dX3_takeFrom_86 : decode cX3_takeFrom 86 = .ok (.iconst 0, 1) := by decide +kernel
theorem dX3_takeFrom_87 : decode cX3_takeFrom 87 = .ok (.iconst 4, 1) := by decide +kernel
theorem dX3_takeFrom_88 : decode cX3_takeFrom 88 = .ok (.invokestatic 53, 3) := by decide +kernel
theorem dX3_takeFrom_91 : decode cX3_takeFrom 91 = .ok (.return_, 1) := by decide +kernel
theorem dX3_sings_0 : decode cX3_sings 0 = .ok (.aload_n 0, 1) := by decide +kernel
theorem dX3_sings_1 : decode cX3_sings 1 = .ok (.getfield 37, 3) := by decide +kernel
theorem dX3_sings_4 : decode cX3_sings 4 = .ok (.iload_n 1, 1) := by decide +kernel
theorem dX3_sings_5 : decode cX3_sings 5 = .ok (.invokevirtual 59, 3) := by decide +kernel
theorem dX3_sings_8 : decode cX3_sings 8 = .ok (.ifCond .eq 17, 3) := by decide +kernel
theorem dX3_sings_11 : decode cX3_sings 11 = .ok (.aload_n 0, 1) := by decide +kernel
theorem dX3_sings_12 : decode cX3_sings 12 = .ok (.getfield 31, 3) := by decide +kernel
theorem dX3_sings_15 : decode cX3_sings 15 = .ok (.iload_n 1, 1) := by decide +kernel
theorem dX3_sings_16 : decode cX3_sings 16 = .ok (.iaload, 1) := by decide +kernel
theorem dX3_sings_17 : decode cX3_sings 17 = .ok (.iconst (-1), 1) := by decide +kernel
theorem dX3_sings_18 : decode cX3_sings 18 = .ok (.if_icmp .eq 7, 3) := by decide +kernel
theorem dX3_sings_21 : decode cX3_sings 21 = .ok (.iconst 1, 1) := by decide +kernel
theorem dX3_sings_22 : decode cX3_sings 22 = .ok (.goto 4, 3) := by decide +kernel
theorem dX3_sings_25 : decode cX3_sings 25 = .ok (.iconst 0, 1) := by decide +kernel
theorem dX3_sings_26 : decode cX3_sings 26 = .ok (.ireturn, 1) := by decide +kernel
theorem dX3_whoSings_0 : decode cX3_whoSings 0 = .ok (.iconst 0, 1) := by decide +kernel
theorem dX3_whoSings_1 : decode cX3_whoSings 1 = .ok (.istore_n 1, 1) := by decide +kernel
theorem dX3_whoSings_2 : decode cX3_whoSings 2 = .ok (.iconst 0, 1) := by decide +kernel
theorem dX3_whoSings_3 : decode cX3_whoSings 3 = .ok (.istore_n 2, 1) := by decide +kernel
theorem dX3_whoSings_4 : decode cX3_whoSings 4 = .ok (.iload_n 2, 1) := by decide +kernel
theorem dX3_whoSings_5 : decode cX3_whoSings 5 = .ok (.aload_n 0, 1) := by decide +kernel
theorem dX3_whoSings_6 : decode cX3_whoSings 6 = .ok (.getfield 37, 3) := by decide +kernel
theorem dX3_whoSings_9 : decode cX3_whoSings 9 = .ok (.getfield 63, 3) := by decide +kernel
theorem dX3_whoSings_12 : decode cX3_whoSings 12 = .ok (.if_icmp .ge 25, 3) := by decide +kernel
theorem dX3_whoSings_15 : decode cX3_whoSings 15 = .ok (.aload_n 0, 1) := by decide +kernel
theorem dX3_whoSings_16 : decode cX3_whoSings 16 = .ok (.getfield 31, 3) := by decide +kernel
theorem dX3_whoSings_19 : decode cX3_whoSings 19 = .ok (.iload_n 2, 1) := by decide +kernel
theorem dX3_whoSings_20 : decode cX3_whoSings 20 = .ok (.iaload, 1) := by decide +kernel
theorem dX3_whoSings_21 : decode cX3_whoSings 21 = .ok (.iconst (-1), 1) := by decide +kernel
theorem dX3_whoSings_22 : decode cX3_whoSings 22 = .ok (.if_icmp .eq 9, 3) := by decide +kernel
theorem dX3_whoSings_25 : decode cX3_whoSings 25 = .ok (.iload_n 1, 1) := by decide +kernel
theorem dX3_whoSings_26 : decode cX3_whoSings 26 = .ok (.iconst 1, 1) := by decide +kernel
theorem dX3_whoSings_27 : decode cX3_whoSings 27 = .ok (.iload_n 2, 1) := by decide +kernel
theorem dX3_whoSings_28 : decode cX3_whoSings 28 = .ok (.ishl, 1) := by decide +kernel
theorem dX3_whoSings_29 : decode cX3_whoSings 29 = .ok (.ior, 1) := by decide +kernel
theorem dX3_whoSings_30 : decode cX3_whoSings 30 = .ok (.istore_n 1, 1) := by decide +kernel
theorem dX3_whoSings_31 : decode cX3_whoSings 31 = .ok (.iinc 2 1, 3) := by decide +kernel
theorem dX3_whoSings_34 : decode cX3_whoSings 34 = .ok (.goto (-30), 3) := by decide +kernel
theorem dX3_whoSings_37 : decode cX3_whoSings 37 = .ok (.iload_n 1, 1) := by decide +kernel
theorem dX3_whoSings_38 : decode cX3_whoSings 38 = .ok (.ireturn, 1) := by decide +kernel
theorem dX3_whoIsIn_0 : decode cX3_whoIsIn 0 = .ok (.iconst 0, 1) := by decide +kernel
theorem dX3_whoIsIn_1 : decode cX3_whoIsIn 1 = .ok (.istore_n 2, 1) := by decide +kernel
theorem dX3_whoIsIn_2 : decode cX3_whoIsIn 2 = .ok (.iconst 0, 1) := by decide +kernel
theorem dX3_whoIsIn_3 : decode cX3_whoIsIn 3 = .ok (.istore_n 3, 1) := by decide +kernel
theorem dX3_whoIsIn_4 : decode cX3_whoIsIn 4 = .ok (.iload_n 3, 1) := by decide +kernel
theorem dX3_whoIsIn_5 : decode cX3_whoIsIn 5 = .ok (.aload_n 0, 1) := by decide +kernel
theorem dX3_whoIsIn_6 : decode cX3_whoIsIn 6 = .ok (.getfield 37, 3) := by decide +kernel
theorem dX3_whoIsIn_9 : decode cX3_whoIsIn 9 = .ok (.getfield 63, 3) := by decide +kernel
theorem dX3_whoIsIn_12 : decode cX3_whoIsIn 12 = .ok (.if_icmp .ge 25, 3) := by decide +kernel
theorem dX3_whoIsIn_15 : decode cX3_whoIsIn 15 = .ok (.aload_n 0, 1) := by decide +kernel
theorem dX3_whoIsIn_16 : decode cX3_whoIsIn 16 = .ok (.getfield 24, 3) := by decide +kernel
theorem dX3_whoIsIn_19 : decode cX3_whoIsIn 19 = .ok (.iload_n 3, 1) := by decide +kernel
theorem dX3_whoIsIn_20 : decode cX3_whoIsIn 20 = .ok (.iaload, 1) := by decide +kernel
theorem dX3_whoIsIn_21 : decode cX3_whoIsIn 21 = .ok (.iload_n 1, 1) := by decide +kernel
theorem dX3_whoIsIn_22 : decode cX3_whoIsIn 22 = .ok (.if_icmp .ne 9, 3) := by decide +kernel
theorem dX3_whoIsIn_25 : decode cX3_whoIsIn 25 = .ok (.iload_n 2, 1) := by decide +kernel
theorem dX3_whoIsIn_26 : decode cX3_whoIsIn 26 = .ok (.iconst 1, 1) := by decide +kernel
theorem dX3_whoIsIn_27 : decode cX3_whoIsIn 27 = .ok (.iload_n 3, 1) := by decide +kernel
theorem dX3_whoIsIn_28 : decode cX3_whoIsIn 28 = .ok (.ishl, 1) := by decide +kernel
theorem dX3_whoIsIn_29 : decode cX3_whoIsIn 29 = .ok (.ior, 1) := by decide +kernel
theorem dX3_whoIsIn_30 : decode cX3_whoIsIn 30 = .ok (.istore_n 2, 1) := by decide +kernel
theorem dX3_whoIsIn_31 : decode cX3_whoIsIn 31 = .ok (.iinc 3 1, 3) := by decide +kernel
theorem dX3_whoIsIn_34 : decode cX3_whoIsIn 34 = .ok (.goto (-30), 3) := by decide +kernel
theorem dX3_whoIsIn_37 : decode cX3_whoIsIn 37 = .ok (.iload_n 2, 1) := by decide +kernel
theorem dX3_whoIsIn_38 : decode cX3_whoIsIn 38 = .ok (.ireturn, 1) := by decide +kernel
theorem dX3_voicesIn_0 : decode cX3_voicesIn 0 = .ok (.aload_n 0, 1) := by decide +kernel
theorem dX3_voicesIn_1 : decode cX3_voicesIn 1 = .ok (.iload_n 1, 1) := by decide +kernel
theorem dX3_voicesIn_2 : decode cX3_voicesIn 2 = .ok (.invokevirtual 66, 3) := by decide +kernel
theorem dX3_voicesIn_5 : decode cX3_voicesIn 5 = .ok (.aload_n 0, 1) := by decide +kernel
theorem dX3_voicesIn_6 : decode cX3_voicesIn 6 = .ok (.invokevirtual 70, 3) := by decide +kernel
theorem dX3_voicesIn_9 : decode cX3_voicesIn 9 = .ok (.iand, 1) := by decide +kernel
theorem dX3_voicesIn_10 : decode cX3_voicesIn 10 = .ok (.invokestatic 74, 3) := by decide +kernel
theorem dX3_voicesIn_13 : decode cX3_voicesIn 13 = .ok (.ireturn, 1) := by decide +kernel
theorem dX3_inspectorsIn_0 : decode cX3_inspectorsIn 0 = .ok (.iconst 0, 1) := by decide +kernel
theorem dX3_inspectorsIn_1 : decode cX3_inspectorsIn 1 = .ok (.istore_n 2, 1) := by decide +kernel
theorem dX3_inspectorsIn_2 : decode cX3_inspectorsIn 2 = .ok (.iconst 0, 1) := by decide +kernel
theorem dX3_inspectorsIn_3 : decode cX3_inspectorsIn 3 = .ok (.istore_n 3, 1) := by decide +kernel
theorem dX3_inspectorsIn_4 : decode cX3_inspectorsIn 4 = .ok (.iload_n 3, 1) := by decide +kernel
theorem dX3_inspectorsIn_5 : decode cX3_inspectorsIn 5 = .ok (.aload_n 0, 1) := by decide +kernel
theorem dX3_inspectorsIn_6 : decode cX3_inspectorsIn 6 = .ok (.getfield 37, 3) := by decide +kernel
theorem dX3_inspectorsIn_9 : decode cX3_inspectorsIn 9 = .ok (.getfield 79, 3) := by decide +kernel
theorem dX3_inspectorsIn_12 : decode cX3_inspectorsIn 12 = .ok (.if_icmp .ge 22, 3) := by decide +kernel
theorem dX3_inspectorsIn_15 : decode cX3_inspectorsIn 15 = .ok (.aload_n 0, 1) := by decide +kernel
theorem dX3_inspectorsIn_16 : decode cX3_inspectorsIn 16 = .ok (.getfield 34, 3) := by decide +kernel
theorem dX3_inspectorsIn_19 : decode cX3_inspectorsIn 19 = .ok (.iload_n 3, 1) := by decide +kernel
theorem dX3_inspectorsIn_20 : decode cX3_inspectorsIn 20 = .ok (.iaload, 1) := by decide +kernel
theorem dX3_inspectorsIn_21 : decode cX3_inspectorsIn 21 = .ok (.iload_n 1, 1) := by decide +kernel
theorem dX3_inspectorsIn_22 : decode cX3_inspectorsIn 22 = .ok (.if_icmp .ne 6, 3) := by decide +kernel
theorem dX3_inspectorsIn_25 : decode cX3_inspectorsIn 25 = .ok (.iinc 2 1, 3) := by decide +kernel
theorem dX3_inspectorsIn_28 : decode cX3_inspectorsIn 28 = .ok (.iinc 3 1, 3) := by decide +kernel
theorem dX3_inspectorsIn_31 : decode cX3_inspectorsIn 31 = .ok (.goto (-27), 3) := by decide +kernel
theorem dX3_inspectorsIn_34 : decode cX3_inspectorsIn 34 = .ok (.iload_n 2, 1) := by decide +kernel
theorem dX3_inspectorsIn_35 : decode cX3_inspectorsIn 35 = .ok (.ireturn, 1) := by decide +kernel
theorem dX3_deafPlaces_0 : decode cX3_deafPlaces 0 = .ok (.iconst 0, 1) := by decide +kernel
theorem dX3_deafPlaces_1 : decode cX3_deafPlaces 1 = .ok (.istore_n 1, 1) := by decide +kernel
theorem dX3_deafPlaces_2 : decode cX3_deafPlaces 2 = .ok (.iconst 0, 1) := by decide +kernel
theorem dX3_deafPlaces_3 : decode cX3_deafPlaces 3 = .ok (.istore_n 2, 1) := by decide +kernel
theorem dX3_deafPlaces_4 : decode cX3_deafPlaces 4 = .ok (.iload_n 2, 1) := by decide +kernel
theorem dX3_deafPlaces_5 : decode cX3_deafPlaces 5 = .ok (.aload_n 0, 1) := by decide +kernel
theorem dX3_deafPlaces_6 : decode cX3_deafPlaces 6 = .ok (.getfield 37, 3) := by decide +kernel
theorem dX3_deafPlaces_9 : decode cX3_deafPlaces 9 = .ok (.getfield 82, 3) := by decide +kernel
theorem dX3_deafPlaces_12 : decode cX3_deafPlaces 12 = .ok (.if_icmp .ge 23, 3) := by decide +kernel
theorem dX3_deafPlaces_15 : decode cX3_deafPlaces 15 = .ok (.aload_n 0, 1) := by decide +kernel
theorem dX3_deafPlaces_16 : decode cX3_deafPlaces 16 = .ok (.iload_n 2, 1) := by decide +kernel
theorem dX3_deafPlaces_17 : decode cX3_deafPlaces 17 = .ok (.invokevirtual 85, 3) := by decide +kernel
theorem dX3_deafPlaces_20 : decode cX3_deafPlaces 20 = .ok (.ifCond .ne 9, 3) := by decide +kernel
theorem dX3_deafPlaces_23 : decode cX3_deafPlaces 23 = .ok (.iload_n 1, 1) := by decide +kernel
theorem dX3_deafPlaces_24 : decode cX3_deafPlaces 24 = .ok (.iconst 1, 1) := by decide +kernel
theorem dX3_deafPlaces_25 : decode cX3_deafPlaces 25 = .ok (.iload_n 2, 1) := by decide +kernel
theorem dX3_deafPlaces_26 : decode cX3_deafPlaces 26 = .ok (.ishl, 1) := by decide +kernel
theorem dX3_deafPlaces_27 : decode cX3_deafPlaces 27 = .ok (.ior, 1) := by decide +kernel
theorem dX3_deafPlaces_28 : decode cX3_deafPlaces 28 = .ok (.istore_n 1, 1) := by decide +kernel
theorem dX3_deafPlaces_29 : decode cX3_deafPlaces 29 = .ok (.iinc 2 1, 3) := by decide +kernel
theorem dX3_deafPlaces_32 : decode cX3_deafPlaces 32 = .ok (.goto (-28), 3) := by decide +kernel
theorem dX3_deafPlaces_35 : decode cX3_deafPlaces 35 = .ok (.iload_n 1, 1) := by decide +kernel
theorem dX3_deafPlaces_36 : decode cX3_deafPlaces 36 = .ok (.ireturn, 1) := by decide +kernel
theorem dX3_richest_0 : decode cX3_richest 0 = .ok (.iconst (-1), 1) := by decide +kernel
theorem dX3_richest_1 : decode cX3_richest 1 = .ok (.istore_n 1, 1) := by decide +kernel
theorem dX3_richest_2 : decode cX3_richest 2 = .ok (.iconst (-1), 1) := by decide +kernel
theorem dX3_richest_3 : decode cX3_richest 3 = .ok (.istore_n 2, 1) := by decide +kernel
theorem dX3_richest_4 : decode cX3_richest 4 = .ok (.iconst 0, 1) := by decide +kernel
theorem dX3_richest_5 : decode cX3_richest 5 = .ok (.istore_n 3, 1) := by decide +kernel
theorem dX3_richest_6 : decode cX3_richest 6 = .ok (.iload_n 3, 1) := by decide +kernel
theorem dX3_richest_7 : decode cX3_richest 7 = .ok (.aload_n 0, 1) := by decide +kernel
theorem dX3_richest_8 : decode cX3_richest 8 = .ok (.getfield 37, 3) := by decide +kernel
theorem dX3_richest_11 : decode cX3_richest 11 = .ok (.getfield 63, 3) := by decide +kernel
theorem dX3_richest_14 : decode cX3_richest 14 = .ok (.if_icmp .ge 28, 3) := by decide +kernel
theorem dX3_richest_17 : decode cX3_richest 17 = .ok (.aload_n 0, 1) := by decide +kernel
theorem dX3_richest_18 : decode cX3_richest 18 = .ok (.getfield 28, 3) := by decide +kernel
theorem dX3_richest_21 : decode cX3_richest 21 = .ok (.iload_n 3, 1) := by decide +kernel
theorem dX3_richest_22 : decode cX3_richest 22 = .ok (.iaload, 1) := by decide +kernel
theorem dX3_richest_23 : decode cX3_richest 23 = .ok (.iload_n 2, 1) := by decide +kernel
theorem dX3_richest_24 : decode cX3_richest 24 = .ok (.if_icmp .le 12, 3) := by decide +kernel
theorem dX3_richest_27 : decode cX3_richest 27 = .ok (.iload_n 3, 1) := by decide +kernel
theorem dX3_richest_28 : decode cX3_richest 28 = .ok (.istore_n 1, 1) := by decide +kernel
theorem dX3_richest_29 : decode cX3_richest 29 = .ok (.aload_n 0, 1) := by decide +kernel
theorem dX3_richest_30 : decode cX3_richest 30 = .ok (.getfield 28, 3) := by decide +kernel
theorem dX3_richest_33 : decode cX3_richest 33 = .ok (.iload_n 3, 1) := by decide +kernel
theorem dX3_richest_34 : decode cX3_richest 34 = .ok (.iaload, 1) := by decide +kernel
theorem dX3_richest_35 : decode cX3_richest 35 = .ok (.istore_n 2, 1) := by decide +kernel
theorem dX3_richest_36 : decode cX3_richest 36 = .ok (.iinc 3 1, 3) := by decide +kernel
theorem dX3_richest_39 : decode cX3_richest 39 = .ok (.goto (-33), 3) := by decide +kernel
theorem dX3_richest_42 : decode cX3_richest 42 = .ok (.iload_n 1, 1) := by decide +kernel
theorem dX3_richest_43 : decode cX3_richest 43 = .ok (.ireturn, 1) := by decide +kernel
theorem dX3_priceBy_0 : decode cX3_priceBy 0 = .ok (.iload_n 1, 1) := by decide +kernel
theorem dX3_priceBy_1 : decode cX3_priceBy 1 = .ok (.iload_n 3, 1) := by decide +kernel
theorem dX3_priceBy_2 : decode cX3_priceBy 2 = .ok (.imul, 1) := by decide +kernel
theorem dX3_priceBy_3 : decode cX3_priceBy 3 = .ok (.iload_n 3, 1) := by decide +kernel
theorem dX3_priceBy_4 : decode cX3_priceBy 4 = .ok (.imul, 1) := by decide +kernel
theorem dX3_priceBy_5 : decode cX3_priceBy 5 = .ok (.istore 5, 2) := by decide +kernel
theorem dX3_priceBy_7 : decode cX3_priceBy 7 = .ok (.aload_n 0, 1) := by decide +kernel
theorem dX3_priceBy_8 : decode cX3_priceBy 8 = .ok (.getfield 37, 3) := by decide +kernel
theorem dX3_priceBy_11 : decode cX3_priceBy 11 = .ok (.iload_n 2, 1) := by decide +kernel
theorem dX3_priceBy_12 : decode cX3_priceBy 12 = .ok (.invokevirtual 59, 3) := by decide +kernel
theorem dX3_priceBy_15 : decode cX3_priceBy 15 = .ok (.ifCond .eq 15, 3) := by decide +kernel
theorem dX3_priceBy_18 : decode cX3_priceBy 18 = .ok (.aload_n 0, 1) := by decide +kernel
theorem dX3_priceBy_19 : decode cX3_priceBy 19 = .ok (.getfield 37, 3) := by decide +kernel
theorem dX3_priceBy_22 : decode cX3_priceBy 22 = .ok (.getfield 88, 3) := by decide +kernel
theorem dX3_priceBy_25 : decode cX3_priceBy 25 = .ok (.iload_n 2, 1) := by decide +kernel
theorem dX3_priceBy_26 : decode cX3_priceBy 26 = .ok (.iaload, 1) := by decide +kernel
theorem dX3_priceBy_27 : decode cX3_priceBy 27 = .ok (.goto 4, 3) := by decide +kernel
theorem dX3_priceBy_30 : decode cX3_priceBy 30 = .ok (.iconst 2, 1) := by decide +kernel
theorem dX3_priceBy_31 : decode cX3_priceBy 31 = .ok (.tableswitch 51 1 3 #[25, 30, 32], 25) := by decide +kernel
theorem dX3_priceBy_56 : decode cX3_priceBy 56 = .ok (.iconst 2, 1) := by decide +kernel
theorem dX3_priceBy_57 : decode cX3_priceBy 57 = .ok (.iload 5, 2) := by decide +kernel
theorem dX3_priceBy_59 : decode cX3_priceBy 59 = .ok (.imul, 1) := by decide +kernel
theorem dX3_priceBy_60 : decode cX3_priceBy 60 = .ok (.ireturn, 1) := by decide +kernel
theorem dX3_priceBy_61 : decode cX3_priceBy 61 = .ok (.iconst 0, 1) := by decide +kernel
theorem dX3_priceBy_62 : decode cX3_priceBy 62 = .ok (.ireturn, 1) := by decide +kernel
theorem dX3_priceBy_63 : decode cX3_priceBy 63 = .ok (.aload_n 0, 1) := by decide +kernel
theorem dX3_priceBy_64 : decode cX3_priceBy 64 = .ok (.iload 4, 2) := by decide +kernel
theorem dX3_priceBy_66 : decode cX3_priceBy 66 = .ok (.invokevirtual 85, 3) := by decide +kernel
theorem dX3_priceBy_69 : decode cX3_priceBy 69 = .ok (.ifCond .le 8, 3) := by decide +kernel
theorem dX3_priceBy_72 : decode cX3_priceBy 72 = .ok (.iload 5, 2) := by decide +kernel
theorem dX3_priceBy_74 : decode cX3_priceBy 74 = .ok (.goto 7, 3) := by decide +kernel
theorem dX3_priceBy_77 : decode cX3_priceBy 77 = .ok (.iload 5, 2) := by decide +kernel
theorem dX3_priceBy_79 : decode cX3_priceBy 79 = .ok (.iconst 2, 1) := by decide +kernel
theorem dX3_priceBy_80 : decode cX3_priceBy 80 = .ok (.idiv, 1) := by decide +kernel
theorem dX3_priceBy_81 : decode cX3_priceBy 81 = .ok (.ireturn, 1) := by decide +kernel
theorem dX3_priceBy_82 : decode cX3_priceBy 82 = .ok (.iload 5, 2) := by decide +kernel
theorem dX3_priceBy_84 : decode cX3_priceBy 84 = .ok (.ireturn, 1) := by decide +kernel
theorem dX3_owedBy_0 : decode cX3_owedBy 0 = .ok (.aload_n 0, 1) := by decide +kernel
theorem dX3_owedBy_1 : decode cX3_owedBy 1 = .ok (.iload_n 1, 1) := by decide +kernel
theorem dX3_owedBy_2 : decode cX3_owedBy 2 = .ok (.invokevirtual 91, 3) := by decide +kernel
theorem dX3_owedBy_5 : decode cX3_owedBy 5 = .ok (.ifCond .eq 24, 3) := by decide +kernel
theorem dX3_owedBy_8 : decode cX3_owedBy 8 = .ok (.aload_n 0, 1) := by decide +kernel
theorem dX3_owedBy_9 : decode cX3_owedBy 9 = .ok (.iload_n 2, 1) := by decide +kernel
theorem dX3_owedBy_10 : decode cX3_owedBy 10 = .ok (.iload_n 1, 1) := by decide +kernel
theorem dX3_owedBy_11 : decode cX3_owedBy 11 = .ok (.aload_n 0, 1) := by decide +kernel
theorem dX3_owedBy_12 : decode cX3_owedBy 12 = .ok (.getfield 31, 3) := by decide +kernel
theorem dX3_owedBy_15 : decode cX3_owedBy 15 = .ok (.iload_n 1, 1) := by decide +kernel
theorem dX3_owedBy_16 : decode cX3_owedBy 16 = .ok (.iaload, 1) := by decide +kernel
theorem dX3_owedBy_17 : decode cX3_owedBy 17 = .ok (.aload_n 0, 1) := by decide +kernel
theorem dX3_owedBy_18 : decode cX3_owedBy 18 = .ok (.getfield 24, 3) := by decide +kernel
theorem dX3_owedBy_21 : decode cX3_owedBy 21 = .ok (.iload_n 1, 1) := by decide +kernel
theorem dX3_owedBy_22 : decode cX3_owedBy 22 = .ok (.iaload, 1) := by decide +kernel
theorem dX3_owedBy_23 : decode cX3_owedBy 23 = .ok (.invokevirtual 94, 3) := by decide +kernel
theorem dX3_owedBy_26 : decode cX3_owedBy 26 = .ok (.goto 4, 3) := by decide +kernel
theorem dX3_owedBy_29 : decode cX3_owedBy 29 = .ok (.iconst 0, 1) := by decide +kernel
theorem dX3_owedBy_30 : decode cX3_owedBy 30 = .ok (.ireturn, 1) := by decide +kernel
theorem dX3_owedIn_0 : decode cX3_owedIn 0 = .ok (.iconst 0, 1) := by decide +kernel
theorem dX3_owedIn_1 : decode cX3_owedIn 1 = .ok (.istore_n 2, 1) := by decide +kernel
theorem dX3_owedIn_2 : decode cX3_owedIn 2 = .ok (.iconst 0, 1) := by decide +kernel
theorem dX3_owedIn_3 : decode cX3_owedIn 3 = .ok (.istore_n 3, 1) := by decide +kernel
theorem dX3_owedIn_4 : decode cX3_owedIn 4 = .ok (.iload_n 3, 1) := by decide +kernel
theorem dX3_owedIn_5 : decode cX3_owedIn 5 = .ok (.aload_n 0, 1) := by decide +kernel
theorem dX3_owedIn_6 : decode cX3_owedIn 6 = .ok (.getfield 37, 3) := by decide +kernel
theorem dX3_owedIn_9 : decode cX3_owedIn 9 = .ok (.getfield 63, 3) := by decide +kernel
theorem dX3_owedIn_12 : decode cX3_owedIn 12 = .ok (.if_icmp .ge 31, 3) := by decide +kernel
theorem dX3_owedIn_15 : decode cX3_owedIn 15 = .ok (.aload_n 0, 1) := by decide +kernel
theorem dX3_owedIn_16 : decode cX3_owedIn 16 = .ok (.getfield 24, 3) := by decide +kernel
theorem dX3_owedIn_19 : decode cX3_owedIn 19 = .ok (.iload_n 3, 1) := by decide +kernel
theorem dX3_owedIn_20 : decode cX3_owedIn 20 = .ok (.iaload, 1) := by decide +kernel
theorem dX3_owedIn_21 : decode cX3_owedIn 21 = .ok (.iload_n 1, 1) := by decide +kernel
theorem dX3_owedIn_22 : decode cX3_owedIn 22 = .ok (.if_icmp .ne 15, 3) := by decide +kernel
theorem dX3_owedIn_25 : decode cX3_owedIn 25 = .ok (.iload_n 2, 1) := by decide +kernel
theorem dX3_owedIn_26 : decode cX3_owedIn 26 = .ok (.aload_n 0, 1) := by decide +kernel
theorem dX3_owedIn_27 : decode cX3_owedIn 27 = .ok (.iload_n 3, 1) := by decide +kernel
theorem dX3_owedIn_28 : decode cX3_owedIn 28 = .ok (.aload_n 0, 1) := by decide +kernel
theorem dX3_owedIn_29 : decode cX3_owedIn 29 = .ok (.getfield 9, 3) := by decide +kernel
theorem dX3_owedIn_32 : decode cX3_owedIn 32 = .ok (.invokevirtual 98, 3) := by decide +kernel
theorem dX3_owedIn_35 : decode cX3_owedIn 35 = .ok (.iadd, 1) := by decide +kernel
theorem dX3_owedIn_36 : decode cX3_owedIn 36 = .ok (.istore_n 2, 1) := by decide +kernel
theorem dX3_owedIn_37 : decode cX3_owedIn 37 = .ok (.iinc 3 1, 3) := by decide +kernel
theorem dX3_owedIn_40 : decode cX3_owedIn 40 = .ok (.goto (-36), 3) := by decide +kernel
theorem dX3_owedIn_43 : decode cX3_owedIn 43 = .ok (.iload_n 2, 1) := by decide +kernel
theorem dX3_owedIn_44 : decode cX3_owedIn 44 = .ok (.ireturn, 1) := by decide +kernel
theorem dX3_owedByAll_0 : decode cX3_owedByAll 0 = .ok (.iconst 0, 1) := by decide +kernel
theorem dX3_owedByAll_1 : decode cX3_owedByAll 1 = .ok (.istore_n 1, 1) := by decide +kernel
theorem dX3_owedByAll_2 : decode cX3_owedByAll 2 = .ok (.iconst 0, 1) := by decide +kernel
theorem dX3_owedByAll_3 : decode cX3_owedByAll 3 = .ok (.istore_n 2, 1) := by decide +kernel
theorem dX3_owedByAll_4 : decode cX3_owedByAll 4 = .ok (.iload_n 2, 1) := by decide +kernel
theorem dX3_owedByAll_5 : decode cX3_owedByAll 5 = .ok (.aload_n 0, 1) := by decide +kernel
theorem dX3_owedByAll_6 : decode cX3_owedByAll 6 = .ok (.getfield 37, 3) := by decide +kernel
theorem dX3_owedByAll_9 : decode cX3_owedByAll 9 = .ok (.getfield 63, 3) := by decide +kernel
theorem dX3_owedByAll_12 : decode cX3_owedByAll 12 = .ok (.if_icmp .ge 21, 3) := by decide +kernel
theorem dX3_owedByAll_15 : decode cX3_owedByAll 15 = .ok (.iload_n 1, 1) := by decide +kernel
theorem dX3_owedByAll_16 : decode cX3_owedByAll 16 = .ok (.aload_n 0, 1) := by decide +kernel
theorem dX3_owedByAll_17 : decode cX3_owedByAll 17 = .ok (.iload_n 2, 1) := by decide +kernel
theorem dX3_owedByAll_18 : decode cX3_owedByAll 18 = .ok (.aload_n 0, 1) := by decide +kernel
theorem dX3_owedByAll_19 : decode cX3_owedByAll 19 = .ok (.getfield 9, 3) := by decide +kernel
theorem dX3_owedByAll_22 : decode cX3_owedByAll 22 = .ok (.invokevirtual 98, 3) := by decide +kernel
theorem dX3_owedByAll_25 : decode cX3_owedByAll 25 = .ok (.iadd, 1) := by decide +kernel
theorem dX3_owedByAll_26 : decode cX3_owedByAll 26 = .ok (.istore_n 1, 1) := by decide +kernel
theorem dX3_owedByAll_27 : decode cX3_owedByAll 27 = .ok (.iinc 2 1, 3) := by decide +kernel
theorem dX3_owedByAll_30 : decode cX3_owedByAll 30 = .ok (.goto (-26), 3) := by decide +kernel
theorem dX3_owedByAll_33 : decode cX3_owedByAll 33 = .ok (.iload_n 1, 1) := by decide +kernel
theorem dX3_owedByAll_34 : decode cX3_owedByAll 34 = .ok (.ireturn, 1) := by decide +kernel
theorem dX3_paidByAll_0 : decode cX3_paidByAll 0 = .ok (.iconst 0, 1) := by decide +kernel
theorem dX3_paidByAll_1 : decode cX3_paidByAll 1 = .ok (.istore_n 2, 1) := by decide +kernel
theorem dX3_paidByAll_2 : decode cX3_paidByAll 2 = .ok (.iconst 0, 1) := by decide +kernel
theorem dX3_paidByAll_3 : decode cX3_paidByAll 3 = .ok (.istore_n 3, 1) := by decide +kernel
theorem dX3_paidByAll_4 : decode cX3_paidByAll 4 = .ok (.iload_n 3, 1) := by decide +kernel
theorem dX3_paidByAll_5 : decode cX3_paidByAll 5 = .ok (.aload_n 0, 1) := by decide +kernel
theorem dX3_paidByAll_6 : decode cX3_paidByAll 6 = .ok (.getfield 37, 3) := by decide +kernel
theorem dX3_paidByAll_9 : decode cX3_paidByAll 9 = .ok (.getfield 63, 3) := by decide +kernel
theorem dX3_paidByAll_12 : decode cX3_paidByAll 12 = .ok (.if_icmp .ge 27, 3) := by decide +kernel
theorem dX3_paidByAll_15 : decode cX3_paidByAll 15 = .ok (.iload_n 2, 1) := by decide +kernel
theorem dX3_paidByAll_16 : decode cX3_paidByAll 16 = .ok (.aload_n 0, 1) := by decide +kernel
theorem dX3_paidByAll_17 : decode cX3_paidByAll 17 = .ok (.getfield 28, 3) := by decide +kernel
theorem dX3_paidByAll_20 : decode cX3_paidByAll 20 = .ok (.iload_n 3, 1) := by decide +kernel
theorem dX3_paidByAll_21 : decode cX3_paidByAll 21 = .ok (.iaload, 1) := by decide +kernel
theorem dX3_paidByAll_22 : decode cX3_paidByAll 22 = .ok (.aload_n 0, 1) := by decide +kernel
theorem dX3_paidByAll_23 : decode cX3_paidByAll 23 = .ok (.iload_n 3, 1) := by decide +kernel
theorem dX3_paidByAll_24 : decode cX3_paidByAll 24 = .ok (.iload_n 1, 1) := by decide +kernel
theorem dX3_paidByAll_25 : decode cX3_paidByAll 25 = .ok (.invokevirtual 98, 3) := by decide +kernel
theorem dX3_paidByAll_28 : decode cX3_paidByAll 28 = .ok (.invokestatic 102, 3) := by decide +kernel
theorem dX3_paidByAll_31 : decode cX3_paidByAll 31 = .ok (.iadd, 1) := by decide +kernel
theorem dX3_paidByAll_32 : decode cX3_paidByAll 32 = .ok (.istore_n 2, 1) := by decide +kernel
theorem dX3_paidByAll_33 : decode cX3_paidByAll 33 = .ok (.iinc 3 1, 3) := by decide +kernel
theorem dX3_paidByAll_36 : decode cX3_paidByAll 36 = .ok (.goto (-32), 3) := by decide +kernel
theorem dX3_paidByAll_39 : decode cX3_paidByAll 39 = .ok (.iload_n 2, 1) := by decide +kernel
theorem dX3_paidByAll_40 : decode cX3_paidByAll 40 = .ok (.ireturn, 1) := by decide +kernel
theorem dX3_owedBySet_0 : decode cX3_owedBySet 0 = .ok (.iconst 0, 1) := by decide +kernel
theorem dX3_owedBySet_1 : decode cX3_owedBySet 1 = .ok (.istore_n 3, 1) := by decide +kernel
theorem dX3_owedBySet_2 : decode cX3_owedBySet 2 = .ok (.iconst 0, 1) := by decide +kernel
theorem dX3_owedBySet_3 : decode cX3_owedBySet 3 = .ok (.istore 4, 2) := by decide +kernel
theorem dX3_owedBySet_5 : decode cX3_owedBySet 5 = .ok (.iconst 0, 1) := by decide +kernel
theorem dX3_owedBySet_6 : decode cX3_owedBySet 6 = .ok (.istore 5, 2) := by decide +kernel
theorem dX3_owedBySet_8 : decode cX3_owedBySet 8 = .ok (.iload 5, 2) := by decide +kernel
theorem dX3_owedBySet_10 : decode cX3_owedBySet 10 = .ok (.aload_n 0, 1) := by decide +kernel
theorem dX3_owedBySet_11 : decode cX3_owedBySet 11 = .ok (.getfield 37, 3) := by decide +kernel
theorem dX3_owedBySet_14 : decode cX3_owedBySet 14 = .ok (.getfield 63, 3) := by decide +kernel
theorem dX3_owedBySet_17 : decode cX3_owedBySet 17 = .ok (.if_icmp .ge 37, 3) := by decide +kernel
theorem dX3_owedBySet_20 : decode cX3_owedBySet 20 = .ok (.iload 5, 2) := by decide +kernel
theorem dX3_owedBySet_22 : decode cX3_owedBySet 22 = .ok (.iload_n 1, 1) := by decide +kernel
theorem dX3_owedBySet_23 : decode cX3_owedBySet 23 = .ok (.invokestatic 107, 3) := by decide +kernel
theorem dX3_owedBySet_26 : decode cX3_owedBySet 26 = .ok (.ifCond .eq 22, 3) := by decide +kernel
theorem dX3_owedBySet_29 : decode cX3_owedBySet 29 = .ok (.iload_n 3, 1) := by decide +kernel
theorem dX3_owedBySet_30 : decode cX3_owedBySet 30 = .ok (.aload_n 0, 1) := by decide +kernel
theorem dX3_owedBySet_31 : decode cX3_owedBySet 31 = .ok (.aload_n 0, 1) := by decide +kernel
theorem dX3_owedBySet_32 : decode cX3_owedBySet 32 = .ok (.getfield 9, 3) := by decide +kernel
theorem dX3_owedBySet_35 : decode cX3_owedBySet 35 = .ok (.iload 5, 2) := by decide +kernel
theorem dX3_owedBySet_37 : decode cX3_owedBySet 37 = .ok (.iload 4, 2) := by decide +kernel
theorem dX3_owedBySet_39 : decode cX3_owedBySet 39 = .ok (.iload_n 2, 1) := by decide +kernel
theorem dX3_owedBySet_40 : decode cX3_owedBySet 40 = .ok (.invokevirtual 94, 3) := by decide +kernel
theorem dX3_owedBySet_43 : decode cX3_owedBySet 43 = .ok (.iadd, 1) := by decide +kernel
theorem dX3_owedBySet_44 : decode cX3_owedBySet 44 = .ok (.istore_n 3, 1) := by decide +kernel
theorem dX3_owedBySet_45 : decode cX3_owedBySet 45 = .ok (.iinc 4 1, 3) := by decide +kernel
theorem dX3_owedBySet_48 : decode cX3_owedBySet 48 = .ok (.iinc 5 1, 3) := by decide +kernel
theorem dX3_owedBySet_51 : decode cX3_owedBySet 51 = .ok (.goto (-43), 3) := by decide +kernel
theorem dX3_owedBySet_54 : decode cX3_owedBySet 54 = .ok (.iload_n 3, 1) := by decide +kernel
theorem dX3_owedBySet_55 : decode cX3_owedBySet 55 = .ok (.ireturn, 1) := by decide +kernel
theorem dX3_mostBorne_0 : decode cX3_mostBorne 0 = .ok (.iconst 0, 1) := by decide +kernel
theorem dX3_mostBorne_1 : decode cX3_mostBorne 1 = .ok (.istore_n 3, 1) := by decide +kernel
theorem dX3_mostBorne_2 : decode cX3_mostBorne 2 = .ok (.iconst 0, 1) := by decide +kernel
theorem dX3_mostBorne_3 : decode cX3_mostBorne 3 = .ok (.istore 4, 2) := by decide +kernel
theorem dX3_mostBorne_5 : decode cX3_mostBorne 5 = .ok (.iload 4, 2) := by decide +kernel
theorem dX3_mostBorne_7 : decode cX3_mostBorne 7 = .ok (.aload_n 0, 1) := by decide +kernel
theorem dX3_mostBorne_8 : decode cX3_mostBorne 8 = .ok (.getfield 37, 3) := by decide +kernel
theorem dX3_mostBorne_11 : decode cX3_mostBorne 11 = .ok (.invokevirtual 111, 3) := by decide +kernel
theorem dX3_mostBorne_14 : decode cX3_mostBorne 14 = .ok (.if_icmp .gt 43, 3) := by decide +kernel
theorem dX3_mostBorne_17 : decode cX3_mostBorne 17 = .ok (.iload 4, 2) := by decide +kernel
theorem dX3_mostBorne_19 : decode cX3_mostBorne 19 = .ok (.iload_n 1, 1) := by decide +kernel
theorem dX3_mostBorne_20 : decode cX3_mostBorne 20 = .ok (.iconst (-1), 1) := by decide +kernel
theorem dX3_mostBorne_21 : decode cX3_mostBorne 21 = .ok (.ixor, 1) := by decide +kernel
theorem dX3_mostBorne_22 : decode cX3_mostBorne 22 = .ok (.iand, 1) := by decide +kernel
theorem dX3_mostBorne_23 : decode cX3_mostBorne 23 = .ok (.ifCond .ne 28, 3) := by decide +kernel
theorem dX3_mostBorne_26 : decode cX3_mostBorne 26 = .ok (.iload 4, 2) := by decide +kernel
theorem dX3_mostBorne_28 : decode cX3_mostBorne 28 = .ok (.invokestatic 74, 3) := by decide +kernel
theorem dX3_mostBorne_31 : decode cX3_mostBorne 31 = .ok (.iload_n 3, 1) := by decide +kernel
theorem dX3_mostBorne_32 : decode cX3_mostBorne 32 = .ok (.invokestatic 74, 3) := by decide +kernel
theorem dX3_mostBorne_35 : decode cX3_mostBorne 35 = .ok (.if_icmp .le 16, 3) := by decide +kernel
theorem dX3_mostBorne_38 : decode cX3_mostBorne 38 = .ok (.aload_n 0, 1) := by decide +kernel
theorem dX3_mostBorne_39 : decode cX3_mostBorne 39 = .ok (.iload 4, 2) := by decide +kernel
theorem dX3_mostBorne_41 : decode cX3_mostBorne 41 = .ok (.iload_n 2, 1) := by decide +kernel
theorem dX3_mostBorne_42 : decode cX3_mostBorne 42 = .ok (.invokevirtual 114, 3) := by decide +kernel
theorem dX3_mostBorne_45 : decode cX3_mostBorne 45 = .ok (.ifCond .eq 6, 3) := by decide +kernel
theorem dX3_mostBorne_48 : decode cX3_mostBorne 48 = .ok (.iload 4, 2) := by decide +kernel
theorem dX3_mostBorne_50 : decode cX3_mostBorne 50 = .ok (.istore_n 3, 1) := by decide +kernel
theorem dX3_mostBorne_51 : decode cX3_mostBorne 51 = .ok (.iinc 4 1, 3) := by decide +kernel
theorem dX3_mostBorne_54 : decode cX3_mostBorne 54 = .ok (.goto (-49), 3) := by decide +kernel
theorem dX3_mostBorne_57 : decode cX3_mostBorne 57 = .ok (.iload_n 3, 1) := by decide +kernel
theorem dX3_mostBorne_58 : decode cX3_mostBorne 58 = .ok (.ireturn, 1) := by decide +kernel
theorem dX3_canPay_0 : decode cX3_canPay 0 = .ok (.iconst 0, 1) := by decide +kernel
theorem dX3_canPay_1 : decode cX3_canPay 1 = .ok (.istore_n 3, 1) := by decide +kernel
theorem dX3_canPay_2 : decode cX3_canPay 2 = .ok (.iconst 0, 1) := by decide +kernel
theorem dX3_canPay_3 : decode cX3_canPay 3 = .ok (.istore 4, 2) := by decide +kernel
theorem dX3_canPay_5 : decode cX3_canPay 5 = .ok (.iload 4, 2) := by decide +kernel
theorem dX3_canPay_7 : decode cX3_canPay 7 = .ok (.aload_n 0, 1) := by decide +kernel
theorem dX3_canPay_8 : decode cX3_canPay 8 = .ok (.getfield 37, 3) := by decide +kernel
theorem dX3_canPay_11 : decode cX3_canPay 11 = .ok (.getfield 63, 3) := by decide +kernel
theorem dX3_canPay_14 : decode cX3_canPay 14 = .ok (.if_icmp .ge 45, 3) := by decide +kernel
theorem dX3_canPay_17 : decode cX3_canPay 17 = .ok (.iload 4, 2) := by decide +kernel
theorem dX3_canPay_19 : decode cX3_canPay 19 = .ok (.iload_n 1, 1) := by decide +kernel
theorem dX3_canPay_20 : decode cX3_canPay 20 = .ok (.invokestatic 107, 3) := by decide +kernel
theorem dX3_canPay_23 : decode cX3_canPay 23 = .ok (.ifCond .eq 30, 3) := by decide +kernel
theorem dX3_canPay_26 : decode cX3_canPay 26 = .ok (.aload_n 0, 1) := by decide +kernel
theorem dX3_canPay_27 : decode cX3_canPay 27 = .ok (.getfield 28, 3) := by decide +kernel
theorem dX3_canPay_30 : decode cX3_canPay 30 = .ok (.iload 4, 2) := by decide +kernel
theorem dX3_canPay_32 : decode cX3_canPay 32 = .ok (.iaload, 1) := by decide +kernel
theorem dX3_canPay_33 : decode cX3_canPay 33 = .ok (.aload_n 0, 1) := by decide +kernel
theorem dX3_canPay_34 : decode cX3_canPay 34 = .ok (.aload_n 0, 1) := by decide +kernel
theorem dX3_canPay_35 : decode cX3_canPay 35 = .ok (.getfield 9, 3) := by decide +kernel
theorem dX3_canPay_38 : decode cX3_canPay 38 = .ok (.iload 4, 2) := by decide +kernel
theorem dX3_canPay_40 : decode cX3_canPay 40 = .ok (.iload_n 3, 1) := by decide +kernel
theorem dX3_canPay_41 : decode cX3_canPay 41 = .ok (.iload_n 2, 1) := by decide +kernel
theorem dX3_canPay_42 : decode cX3_canPay 42 = .ok (.invokevirtual 94, 3) := by decide +kernel
theorem dX3_canPay_45 : decode cX3_canPay 45 = .ok (.if_icmp .ge 5, 3) := by decide +kernel
theorem dX3_canPay_48 : decode cX3_canPay 48 = .ok (.iconst 0, 1) := by decide +kernel
theorem dX3_canPay_49 : decode cX3_canPay 49 = .ok (.ireturn, 1) := by decide +kernel
theorem dX3_canPay_50 : decode cX3_canPay 50 = .ok (.iinc 3 1, 3) := by decide +kernel
theorem dX3_canPay_53 : decode cX3_canPay 53 = .ok (.iinc 4 1, 3) := by decide +kernel
theorem dX3_canPay_56 : decode cX3_canPay 56 = .ok (.goto (-51), 3) := by decide +kernel
theorem dX3_canPay_59 : decode cX3_canPay 59 = .ok (.iconst 1, 1) := by decide +kernel
theorem dX3_canPay_60 : decode cX3_canPay 60 = .ok (.ireturn, 1) := by decide +kernel
theorem dX3_letIn_0 : decode cX3_letIn 0 = .ok (.aload_n 0, 1) := by decide +kernel
theorem dX3_letIn_1 : decode cX3_letIn 1 = .ok (.getfield 37, 3) := by decide +kernel
theorem dX3_letIn_4 : decode cX3_letIn 4 = .ok (.iload_n 1, 1) := by decide +kernel
theorem dX3_letIn_5 : decode cX3_letIn 5 = .ok (.invokevirtual 59, 3) := by decide +kernel
theorem dX3_letIn_8 : decode cX3_letIn 8 = .ok (.ifCond .eq 29, 3) := by decide +kernel
theorem dX3_letIn_11 : decode cX3_letIn 11 = .ok (.aload_n 0, 1) := by decide +kernel
theorem dX3_letIn_12 : decode cX3_letIn 12 = .ok (.getfield 31, 3) := by decide +kernel
theorem dX3_letIn_15 : decode cX3_letIn 15 = .ok (.iload_n 1, 1) := by decide +kernel
theorem dX3_letIn_16 : decode cX3_letIn 16 = .ok (.iaload, 1) := by decide +kernel
theorem dX3_letIn_17 : decode cX3_letIn 17 = .ok (.iconst (-1), 1) := by decide +kernel
theorem dX3_letIn_18 : decode cX3_letIn 18 = .ok (.if_icmp .ne 19, 3) := by decide +kernel
theorem dX3_letIn_21 : decode cX3_letIn 21 = .ok (.aload_n 0, 1) := by decide +kernel
theorem dX3_letIn_22 : decode cX3_letIn 22 = .ok (.getfield 31, 3) := by decide +kernel
theorem dX3_letIn_25 : decode cX3_letIn 25 = .ok (.iload_n 1, 1) := by decide +kernel
theorem dX3_letIn_26 : decode cX3_letIn 26 = .ok (.aload_n 0, 1) := by decide +kernel
theorem dX3_letIn_27 : decode cX3_letIn 27 = .ok (.aload_n 0, 1) := by decide +kernel
theorem dX3_letIn_28 : decode cX3_letIn 28 = .ok (.getfield 24, 3) := by decide +kernel
theorem dX3_letIn_31 : decode cX3_letIn 31 = .ok (.iload_n 1, 1) := by decide +kernel
theorem dX3_letIn_32 : decode cX3_letIn 32 = .ok (.iaload, 1) := by decide +kernel
theorem dX3_letIn_33 : decode cX3_letIn 33 = .ok (.invokevirtual 117, 3) := by decide +kernel
theorem dX3_letIn_36 : decode cX3_letIn 36 = .ok (.iastore, 1) := by decide +kernel
theorem dX3_letIn_37 : decode cX3_letIn 37 = .ok (.return_, 1) := by decide +kernel
theorem dX3_silence_0 : decode cX3_silence 0 = .ok (.aload_n 0, 1) := by decide +kernel
theorem dX3_silence_1 : decode cX3_silence 1 = .ok (.iload_n 1, 1) := by decide +kernel
theorem dX3_silence_2 : decode cX3_silence 2 = .ok (.invokevirtual 91, 3) := by decide +kernel
theorem dX3_silence_5 : decode cX3_silence 5 = .ok (.ifCond .ne 4, 3) := by decide +kernel
theorem dX3_silence_8 : decode cX3_silence 8 = .ok (.return_, 1) := by decide +kernel
theorem dX3_silence_9 : decode cX3_silence 9 = .ok (.iconst 0, 1) := by decide +kernel
theorem dX3_silence_10 : decode cX3_silence 10 = .ok (.istore_n 2, 1) := by decide +kernel
theorem dX3_silence_11 : decode cX3_silence 11 = .ok (.iload_n 2, 1) := by decide +kernel
theorem dX3_silence_12 : decode cX3_silence 12 = .ok (.aload_n 0, 1) := by decide +kernel
theorem dX3_silence_13 : decode cX3_silence 13 = .ok (.getfield 37, 3) := by decide +kernel
theorem dX3_silence_16 : decode cX3_silence 16 = .ok (.getfield 63, 3) := by decide +kernel
theorem dX3_silence_19 : decode cX3_silence 19 = .ok (.if_icmp .ge 49, 3) := by decide +kernel
theorem dX3_silence_22 : decode cX3_silence 22 = .ok (.aload_n 0, 1) := by decide +kernel
theorem dX3_silence_23 : decode cX3_silence 23 = .ok (.getfield 24, 3) := by decide +kernel
theorem dX3_silence_26 : decode cX3_silence 26 = .ok (.iload_n 2, 1) := by decide +kernel
theorem dX3_silence_27 : decode cX3_silence 27 = .ok (.iaload, 1) := by decide +kernel
theorem dX3_silence_28 : decode cX3_silence 28 = .ok (.aload_n 0, 1) := by decide +kernel
theorem dX3_silence_29 : decode cX3_silence 29 = .ok (.getfield 24, 3) := by decide +kernel
theorem dX3_silence_32 : decode cX3_silence 32 = .ok (.iload_n 1, 1) := by decide +kernel
theorem dX3_silence_33 : decode cX3_silence 33 = .ok (.iaload, 1) := by decide +kernel
theorem dX3_silence_34 : decode cX3_silence 34 = .ok (.if_icmp .ne 28, 3) := by decide +kernel
theorem dX3_silence_37 : decode cX3_silence 37 = .ok (.aload_n 0, 1) := by decide +kernel
theorem dX3_silence_38 : decode cX3_silence 38 = .ok (.getfield 31, 3) := by decide +kernel
theorem dX3_silence_41 : decode cX3_silence 41 = .ok (.iload_n 2, 1) := by decide +kernel
theorem dX3_silence_42 : decode cX3_silence 42 = .ok (.iaload, 1) := by decide +kernel
theorem dX3_silence_43 : decode cX3_silence 43 = .ok (.aload_n 0, 1) := by decide +kernel
theorem dX3_silence_44 : decode cX3_silence 44 = .ok (.getfield 31, 3) := by decide +kernel
theorem dX3_silence_47 : decode cX3_silence 47 = .ok (.iload_n 1, 1) := by decide +kernel
theorem dX3_silence_48 : decode cX3_silence 48 = .ok (.iaload, 1) := by decide +kernel
theorem dX3_silence_49 : decode cX3_silence 49 = .ok (.if_icmp .le 13, 3) := by decide +kernel
theorem dX3_silence_52 : decode cX3_silence 52 = .ok (.aload_n 0, 1) := by decide +kernel
theorem dX3_silence_53 : decode cX3_silence 53 = .ok (.getfield 31, 3) := by decide +kernel
theorem dX3_silence_56 : decode cX3_silence 56 = .ok (.iload_n 2, 1) := by decide +kernel
theorem dX3_silence_57 : decode cX3_silence 57 = .ok (.dup2, 1) := by decide +kernel
theorem dX3_silence_58 : decode cX3_silence 58 = .ok (.iaload, 1) := by decide +kernel
theorem dX3_silence_59 : decode cX3_silence 59 = .ok (.iconst 1, 1) := by decide +kernel
theorem dX3_silence_60 : decode cX3_silence 60 = .ok (.isub, 1) := by decide +kernel
theorem dX3_silence_61 : decode cX3_silence 61 = .ok (.iastore, 1) := by decide +kernel
theorem dX3_silence_62 : decode cX3_silence 62 = .ok (.iinc 2 1, 3) := by decide +kernel
theorem dX3_silence_65 : decode cX3_silence 65 = .ok (.goto (-54), 3) := by decide +kernel
theorem dX3_silence_68 : decode cX3_silence 68 = .ok (.aload_n 0, 1) := by decide +kernel
theorem dX3_silence_69 : decode cX3_silence 69 = .ok (.getfield 31, 3) := by decide +kernel
theorem dX3_silence_72 : decode cX3_silence 72 = .ok (.iload_n 1, 1) := by decide +kernel
theorem dX3_silence_73 : decode cX3_silence 73 = .ok (.iconst (-1), 1) := by decide +kernel
theorem dX3_silence_74 : decode cX3_silence 74 = .ok (.iastore, 1) := by decide +kernel
theorem dX3_silence_75 : decode cX3_silence 75 = .ok (.return_, 1) := by decide +kernel
theorem dX3_move_0 : decode cX3_move 0 = .ok (.aload_n 0, 1) := by decide +kernel
theorem dX3_move_1 : decode cX3_move 1 = .ok (.getfield 37, 3) := by decide +kernel
theorem dX3_move_4 : decode cX3_move 4 = .ok (.iload_n 1, 1) := by decide +kernel
theorem dX3_move_5 : decode cX3_move 5 = .ok (.invokevirtual 59, 3) := by decide +kernel
theorem dX3_move_8 : decode cX3_move 8 = .ok (.ifCond .eq 25, 3) := by decide +kernel
theorem dX3_move_11 : decode cX3_move 11 = .ok (.aload_n 0, 1) := by decide +kernel
theorem dX3_move_12 : decode cX3_move 12 = .ok (.getfield 24, 3) := by decide +kernel
theorem dX3_move_15 : decode cX3_move 15 = .ok (.iload_n 1, 1) := by decide +kernel
theorem dX3_move_16 : decode cX3_move 16 = .ok (.iaload, 1) := by decide +kernel
theorem dX3_move_17 : decode cX3_move 17 = .ok (.iload_n 2, 1) := by decide +kernel
theorem dX3_move_18 : decode cX3_move 18 = .ok (.if_icmp .eq 15, 3) := by decide +kernel
theorem dX3_move_21 : decode cX3_move 21 = .ok (.aload_n 0, 1) := by decide +kernel
theorem dX3_move_22 : decode cX3_move 22 = .ok (.iload_n 1, 1) := by decide +kernel
theorem dX3_move_23 : decode cX3_move 23 = .ok (.invokevirtual 120, 3) := by decide +kernel
theorem dX3_move_26 : decode cX3_move 26 = .ok (.aload_n 0, 1) := by decide +kernel
theorem dX3_move_27 : decode cX3_move 27 = .ok (.getfield 24, 3) := by decide +kernel
theorem dX3_move_30 : decode cX3_move 30 = .ok (.iload_n 1, 1) := by decide +kernel
theorem dX3_move_31 : decode cX3_move 31 = .ok (.iload_n 2, 1) := by decide +kernel
theorem dX3_move_32 : decode cX3_move 32 = .ok (.iastore, 1) := by decide +kernel
theorem dX3_move_33 : decode cX3_move 33 = .ok (.return_, 1) := by decide +kernel
theorem dX3_fill_0 : decode cX3_fill 0 = .ok (.aload_n 0, 1) := by decide +kernel
theorem dX3_fill_1 : decode cX3_fill 1 = .ok (.getfield 37, 3) := by decide +kernel
theorem dX3_fill_4 : decode cX3_fill 4 = .ok (.iload_n 1, 1) := by decide +kernel
theorem dX3_fill_5 : decode cX3_fill 5 = .ok (.invokevirtual 59, 3) := by decide +kernel
theorem dX3_fill_8 : decode cX3_fill 8 = .ok (.ifCond .eq 23, 3) := by decide +kernel
theorem dX3_fill_11 : decode cX3_fill 11 = .ok (.aload_n 0, 1) := by decide +kernel
theorem dX3_fill_12 : decode cX3_fill 12 = .ok (.getfield 28, 3) := by decide +kernel
theorem dX3_fill_15 : decode cX3_fill 15 = .ok (.iload_n 1, 1) := by decide +kernel
theorem dX3_fill_16 : decode cX3_fill 16 = .ok (.sipush 9999, 3) := by decide +kernel
theorem dX3_fill_19 : decode cX3_fill 19 = .ok (.aload_n 0, 1) := by decide +kernel
theorem dX3_fill_20 : decode cX3_fill 20 = .ok (.getfield 28, 3) := by decide +kernel
theorem dX3_fill_23 : decode cX3_fill 23 = .ok (.iload_n 1, 1) := by decide +kernel
theorem dX3_fill_24 : decode cX3_fill 24 = .ok (.iaload, 1) := by decide +kernel
theorem dX3_fill_25 : decode cX3_fill 25 = .ok (.iload_n 2, 1) := by decide +kernel
theorem dX3_fill_26 : decode cX3_fill 26 = .ok (.iadd, 1) := by decide +kernel
theorem dX3_fill_27 : decode cX3_fill 27 = .ok (.invokestatic 102, 3) := by decide +kernel
theorem dX3_fill_30 : decode cX3_fill 30 = .ok (.iastore, 1) := by decide +kernel
theorem dX3_fill_31 : decode cX3_fill 31 = .ok (.return_, 1) := by decide +kernel
theorem dX3_singVerse_0 : decode cX3_singVerse 0 = .ok (.iconst 0, 1) := by decide +kernel
theorem dX3_singVerse_1 : decode cX3_singVerse 1 = .ok (.istore_n 1, 1) := by decide +kernel
theorem dX3_singVerse_2 : decode cX3_singVerse 2 = .ok (.iconst 0, 1) := by decide +kernel
theorem dX3_singVerse_3 : decode cX3_singVerse 3 = .ok (.istore_n 2, 1) := by decide +kernel
theorem dX3_singVerse_4 : decode cX3_singVerse 4 = .ok (.iload_n 2, 1) := by decide +kernel
theorem dX3_singVerse_5 : decode cX3_singVerse 5 = .ok (.aload_n 0, 1) := by decide +kernel
theorem dX3_singVerse_6 : decode cX3_singVerse 6 = .ok (.getfield 37, 3) := by decide +kernel
theorem dX3_singVerse_9 : decode cX3_singVerse 9 = .ok (.getfield 63, 3) := by decide +kernel
theorem dX3_singVerse_12 : decode cX3_singVerse 12 = .ok (.if_icmp .ge 50, 3) := by decide +kernel
theorem dX3_singVerse_15 : decode cX3_singVerse 15 = .ok (.aload_n 0, 1) := by decide +kernel
theorem dX3_singVerse_16 : decode cX3_singVerse 16 = .ok (.iload_n 2, 1) := by decide +kernel
theorem dX3_singVerse_17 : decode cX3_singVerse 17 = .ok (.aload_n 0, 1) := by decide +kernel
theorem dX3_singVerse_18 : decode cX3_singVerse 18 = .ok (.getfield 9, 3) := by decide +kernel
theorem dX3_singVerse_21 : decode cX3_singVerse 21 = .ok (.invokevirtual 98, 3) := by decide +kernel
theorem dX3_singVerse_24 : decode cX3_singVerse 24 = .ok (.istore_n 3, 1) := by decide +kernel
theorem dX3_singVerse_25 : decode cX3_singVerse 25 = .ok (.aload_n 0, 1) := by decide +kernel
theorem dX3_singVerse_26 : decode cX3_singVerse 26 = .ok (.getfield 28, 3) := by decide +kernel
theorem dX3_singVerse_29 : decode cX3_singVerse 29 = .ok (.iload_n 2, 1) := by decide +kernel
theorem dX3_singVerse_30 : decode cX3_singVerse 30 = .ok (.iaload, 1) := by decide +kernel
theorem dX3_singVerse_31 : decode cX3_singVerse 31 = .ok (.iload_n 3, 1) := by decide +kernel
theorem dX3_singVerse_32 : decode cX3_singVerse 32 = .ok (.if_icmp .ge 9, 3) := by decide +kernel
theorem dX3_singVerse_35 : decode cX3_singVerse 35 = .ok (.iload_n 1, 1) := by decide +kernel
theorem dX3_singVerse_36 : decode cX3_singVerse 36 = .ok (.iconst 1, 1) := by decide +kernel
theorem dX3_singVerse_37 : decode cX3_singVerse 37 = .ok (.iload_n 2, 1) := by decide +kernel
theorem dX3_singVerse_38 : decode cX3_singVerse 38 = .ok (.ishl, 1) := by decide +kernel
theorem dX3_singVerse_39 : decode cX3_singVerse 39 = .ok (.ior, 1) := by decide +kernel
theorem dX3_singVerse_40 : decode cX3_singVerse 40 = .ok (.istore_n 1, 1) := by decide +kernel
theorem dX3_singVerse_41 : decode cX3_singVerse 41 = .ok (.aload_n 0, 1) := by decide +kernel
theorem dX3_singVerse_42 : decode cX3_singVerse 42 = .ok (.iload_n 2, 1) := by decide +kernel
theorem dX3_singVerse_43 : decode cX3_singVerse 43 = .ok (.aload_n 0, 1) := by decide +kernel
theorem dX3_singVerse_44 : decode cX3_singVerse 44 = .ok (.getfield 28, 3) := by decide +kernel
theorem dX3_singVerse_47 : decode cX3_singVerse 47 = .ok (.iload_n 2, 1) := by decide +kernel
theorem dX3_singVerse_48 : decode cX3_singVerse 48 = .ok (.iaload, 1) := by decide +kernel
theorem dX3_singVerse_49 : decode cX3_singVerse 49 = .ok (.iload_n 3, 1) := by decide +kernel
theorem dX3_singVerse_50 : decode cX3_singVerse 50 = .ok (.invokestatic 102, 3) := by decide +kernel
theorem dX3_singVerse_53 : decode cX3_singVerse 53 = .ok (.invokevirtual 124, 3) := by decide +kernel
theorem dX3_singVerse_56 : decode cX3_singVerse 56 = .ok (.iinc 2 1, 3) := by decide +kernel
theorem dX3_singVerse_59 : decode cX3_singVerse 59 = .ok (.goto (-55), 3) := by decide +kernel
theorem dX3_singVerse_62 : decode cX3_singVerse 62 = .ok (.iconst 0, 1) := by decide +kernel
theorem dX3_singVerse_63 : decode cX3_singVerse 63 = .ok (.istore_n 2, 1) := by decide +kernel
theorem dX3_singVerse_64 : decode cX3_singVerse 64 = .ok (.iload_n 2, 1) := by decide +kernel
theorem dX3_singVerse_65 : decode cX3_singVerse 65 = .ok (.aload_n 0, 1) := by decide +kernel
theorem dX3_singVerse_66 : decode cX3_singVerse 66 = .ok (.getfield 37, 3) := by decide +kernel
theorem dX3_singVerse_69 : decode cX3_singVerse 69 = .ok (.getfield 63, 3) := by decide +kernel
theorem dX3_singVerse_72 : decode cX3_singVerse 72 = .ok (.if_icmp .ge 22, 3) := by decide +kernel
theorem dX3_singVerse_75 : decode cX3_singVerse 75 = .ok (.iload_n 2, 1) := by decide +kernel
theorem dX3_singVerse_76 : decode cX3_singVerse 76 = .ok (.iload_n 1, 1) := by decide +kernel
theorem dX3_singVerse_77 : decode cX3_singVerse 77 = .ok (.invokestatic 107, 3) := by decide +kernel
theorem dX3_singVerse_80 : decode cX3_singVerse 80 = .ok (.ifCond .eq 8, 3) := by decide +kernel
theorem dX3_singVerse_83 : decode cX3_singVerse 83 = .ok (.aload_n 0, 1) := by decide +kernel
theorem dX3_singVerse_84 : decode cX3_singVerse 84 = .ok (.iload_n 2, 1) := by decide +kernel
theorem dX3_singVerse_85 : decode cX3_singVerse 85 = .ok (.invokevirtual 120, 3) := by decide +kernel
theorem dX3_singVerse_88 : decode cX3_singVerse 88 = .ok (.iinc 2 1, 3) := by decide +kernel
theorem dX3_singVerse_91 : decode cX3_singVerse 91 = .ok (.goto (-27), 3) := by decide +kernel
theorem dX3_singVerse_94 : decode cX3_singVerse 94 = .ok (.aload_n 0, 1) := by decide +kernel
theorem dX3_singVerse_95 : decode cX3_singVerse 95 = .ok (.dup, 1) := by decide +kernel
theorem dX3_singVerse_96 : decode cX3_singVerse 96 = .ok (.getfield 15, 3) := by decide +kernel
theorem dX3_singVerse_99 : decode cX3_singVerse 99 = .ok (.iconst 1, 1) := by decide +kernel
theorem dX3_singVerse_100 : decode cX3_singVerse 100 = .ok (.iadd, 1) := by decide +kernel
theorem dX3_singVerse_101 : decode cX3_singVerse 101 = .ok (.putfield 15, 3) := by decide +kernel
theorem dX3_singVerse_104 : decode cX3_singVerse 104 = .ok (.return_, 1) := by decide +kernel
theorem dX3_takePence_0 : decode cX3_takePence 0 = .ok (.aload_n 0, 1) := by decide +kernel
theorem dX3_takePence_1 : decode cX3_takePence 1 = .ok (.getfield 28, 3) := by decide +kernel
theorem dX3_takePence_4 : decode cX3_takePence 4 = .ok (.iload_n 1, 1) := by decide +kernel
theorem dX3_takePence_5 : decode cX3_takePence 5 = .ok (.dup2, 1) := by decide +kernel
theorem dX3_takePence_6 : decode cX3_takePence 6 = .ok (.iaload, 1) := by decide +kernel
theorem dX3_takePence_7 : decode cX3_takePence 7 = .ok (.iload_n 2, 1) := by decide +kernel
theorem dX3_takePence_8 : decode cX3_takePence 8 = .ok (.isub, 1) := by decide +kernel
theorem dX3_takePence_9 : decode cX3_takePence 9 = .ok (.iastore, 1) := by decide +kernel
theorem dX3_takePence_10 : decode cX3_takePence 10 = .ok (.aload_n 0, 1) := by decide +kernel
theorem dX3_takePence_11 : decode cX3_takePence 11 = .ok (.ldc 128, 2) := by decide +kernel
theorem dX3_takePence_13 : decode cX3_takePence 13 = .ok (.aload_n 0, 1) := by decide +kernel
theorem dX3_takePence_14 : decode cX3_takePence 14 = .ok (.getfield 18, 3) := by decide +kernel
theorem dX3_takePence_17 : decode cX3_takePence 17 = .ok (.iload_n 2, 1) := by decide +kernel
theorem dX3_takePence_18 : decode cX3_takePence 18 = .ok (.iadd, 1) := by decide +kernel
theorem dX3_takePence_19 : decode cX3_takePence 19 = .ok (.invokestatic 102, 3) := by decide +kernel
theorem dX3_takePence_22 : decode cX3_takePence 22 = .ok (.putfield 18, 3) := by decide +kernel
theorem dX3_takePence_25 : decode cX3_takePence 25 = .ok (.iload_n 2, 1) := by decide +kernel
theorem dX3_takePence_26 : decode cX3_takePence 26 = .ok (.ifCond .le 45, 3) := by decide +kernel
theorem dX3_takePence_29 : decode cX3_takePence 29 = .ok (.aload_n 0, 1) := by decide +kernel
theorem dX3_takePence_30 : decode cX3_takePence 30 = .ok (.getfield 37, 3) := by decide +kernel
theorem dX3_takePence_33 : decode cX3_takePence 33 = .ok (.getfield 88, 3) := by decide +kernel
theorem dX3_takePence_36 : decode cX3_takePence 36 = .ok (.iload_n 1, 1) := by decide +kernel
theorem dX3_takePence_37 : decode cX3_takePence 37 = .ok (.iaload, 1) := by decide +kernel
theorem dX3_takePence_38 : decode cX3_takePence 38 = .ok (.iconst 3, 1) := by decide +kernel
theorem dX3_takePence_39 : decode cX3_takePence 39 = .ok (.if_icmp .ne 32, 3) := by decide +kernel
theorem dX3_takePence_42 : decode cX3_takePence 42 = .ok (.aload_n 0, 1) := by decide +kernel
theorem dX3_takePence_43 : decode cX3_takePence 43 = .ok (.aload_n 0, 1) := by decide +kernel
theorem dX3_takePence_44 : decode cX3_takePence 44 = .ok (.getfield 24, 3) := by decide +kernel
theorem dX3_takePence_47 : decode cX3_takePence 47 = .ok (.iload_n 1, 1) := by decide +kernel
theorem dX3_takePence_48 : decode cX3_takePence 48 = .ok (.iaload, 1) := by decide +kernel
theorem dX3_takePence_49 : decode cX3_takePence 49 = .ok (.invokevirtual 85, 3) := by decide +kernel
theorem dX3_takePence_52 : decode cX3_takePence 52 = .ok (.ifCond .le 19, 3) := by decide +kernel
theorem dX3_takePence_55 : decode cX3_takePence 55 = .ok (.aload_n 0, 1) := by decide +kernel
theorem dX3_takePence_56 : decode cX3_takePence 56 = .ok (.sipush 9999, 3) := by decide +kernel
theorem dX3_takePence_59 : decode cX3_takePence 59 = .ok (.aload_n 0, 1) := by decide +kernel
theorem dX3_takePence_60 : decode cX3_takePence 60 = .ok (.getfield 21, 3) := by decide +kernel
theorem dX3_takePence_63 : decode cX3_takePence 63 = .ok (.iconst 1, 1) := by decide +kernel
theorem dX3_takePence_64 : decode cX3_takePence 64 = .ok (.iadd, 1) := by decide +kernel
theorem dX3_takePence_65 : decode cX3_takePence 65 = .ok (.invokestatic 102, 3) := by decide +kernel
theorem dX3_takePence_68 : decode cX3_takePence 68 = .ok (.putfield 21, 3) := by decide +kernel
theorem dX3_takePence_71 : decode cX3_takePence 71 = .ok (.return_, 1) := by decide +kernel
theorem dX4_init_0 : decode cX4_init 0 = .ok (.aload_n 0, 1) := by decide +kernel
theorem dX4_init_1 : decode cX4_init 1 = .ok (.invokespecial 1, 3) := by decide +kernel
theorem dX4_init_4 : decode cX4_init 4 = .ok (.aload_n 0, 1) := by decide +kernel
theorem dX4_init_5 : decode cX4_init 5 = .ok (.iconst 0, 1) := by decide +kernel
theorem dX4_init_6 : decode cX4_init 6 = .ok (.putfield 7, 3) := by decide +kernel
theorem dX4_init_9 : decode cX4_init 9 = .ok (.aload_n 0, 1) := by decide +kernel
theorem dX4_init_10 : decode cX4_init 10 = .ok (.iconst 0, 1) := by decide +kernel
theorem dX4_init_11 : decode cX4_init 11 = .ok (.putfield 13, 3) := by decide +kernel
theorem dX4_init_14 : decode cX4_init 14 = .ok (.aload_n 0, 1) := by decide +kernel
theorem dX4_init_15 : decode cX4_init 15 = .ok (.new 17, 3) := by decide +kernel
theorem dX4_init_18 : decode cX4_init 18 = .ok (.dup, 1) := by decide +kernel
theorem dX4_init_19 : decode cX4_init 19 = .ok (.aload_n 1, 1) := by decide +kernel
theorem dX4_init_20 : decode cX4_init 20 = .ok (.invokespecial 19, 3) := by decide +kernel
theorem dX4_init_23 : decode cX4_init 23 = .ok (.putfield 22, 3) := by decide +kernel
theorem dX4_init_26 : decode cX4_init 26 = .ok (.return_, 1) := by decide +kernel
theorem dX5_init_0 : decode cX5_init 0 = .ok (.aload_n 0, 1) := by decide +kernel
theorem dX5_init_1 : decode cX5_init 1 = .ok (.invokespecial 3, 3) := by decide +kernel
theorem dX5_init_4 : decode cX5_init 4 = .ok (.aload_n 0, 1) := by decide +kernel
theorem dX5_init_5 : decode cX5_init 5 = .ok (.bipush 6, 2) := by decide +kernel
theorem dX5_init_7 : decode cX5_init 7 = .ok (.newarray .int, 2) := by decide +kernel
theorem dX5_init_9 : decode cX5_init 9 = .ok (.putfield 9, 3) := by decide +kernel
theorem dX5_init_12 : decode cX5_init 12 = .ok (.aload_n 0, 1) := by decide +kernel
theorem dX5_init_13 : decode cX5_init 13 = .ok (.bipush 6, 2) := by decide +kernel
theorem dX5_init_15 : decode cX5_init 15 = .ok (.newarray .int, 2) := by decide +kernel
theorem dX5_init_17 : decode cX5_init 17 = .ok (.putfield 15, 3) := by decide +kernel
theorem dX5_init_20 : decode cX5_init 20 = .ok (.aload_n 0, 1) := by decide +kernel
theorem dX5_init_21 : decode cX5_init 21 = .ok (.bipush 15, 2) := by decide +kernel
theorem dX5_init_23 : decode cX5_init 23 = .ok (.newarray .int, 2) := by decide +kernel
theorem dX5_init_25 : decode cX5_init 25 = .ok (.putfield 18, 3) := by decide +kernel
theorem dX5_init_28 : decode cX5_init 28 = .ok (.aload_n 0, 1) := by decide +kernel
theorem dX5_init_29 : decode cX5_init 29 = .ok (.bipush 15, 2) := by decide +kernel
theorem dX5_init_31 : decode cX5_init 31 = .ok (.newarray .int, 2) := by decide +kernel
theorem dX5_init_33 : decode cX5_init 33 = .ok (.putfield 21, 3) := by decide +kernel
theorem dX5_init_36 : decode cX5_init 36 = .ok (.aload_n 0, 1) := by decide +kernel
theorem dX5_init_37 : decode cX5_init 37 = .ok (.iconst 0, 1) := by decide +kernel
theorem dX5_init_38 : decode cX5_init 38 = .ok (.putfield 24, 3) := by decide +kernel
theorem dX5_init_41 : decode cX5_init 41 = .ok (.aload_n 0, 1) := by decide +kernel
theorem dX5_init_42 : decode cX5_init 42 = .ok (.iconst 0, 1) := by decide +kernel
theorem dX5_init_43 : decode cX5_init 43 = .ok (.putfield 28, 3) := by decide +kernel
theorem dX5_init_46 : decode cX5_init 46 = .ok (.return_, 1) := by decide +kernel
theorem dX5_clear_0 : decode cX5_clear 0 = .ok (.aload_n 0, 1) := by decide +kernel
theorem dX5_clear_1 : decode cX5_clear 1 = .ok (.iconst 0, 1) := by decide +kernel
theorem dX5_clear_2 : decode cX5_clear 2 = .ok (.putfield 24, 3) := by decide +kernel
theorem dX5_clear_5 : decode cX5_clear 5 = .ok (.aload_n 0, 1) := by decide +kernel
theorem dX5_clear_6 : decode cX5_clear 6 = .ok (.iconst 0, 1) := by decide +kernel
theorem dX5_clear_7 : decode cX5_clear 7 = .ok (.putfield 28, 3) := by decide +kernel
theorem dX5_clear_10 : decode cX5_clear 10 = .ok (.return_, 1) := by decide +kernel
theorem dX5_addPayment_0 : decode cX5_addPayment 0 = .ok (.aload_n 0, 1) := by decide +kernel
theorem dX5_addPayment_1 : decode cX5_addPayment 1 = .ok (.getfield 24, 3) := by decide +kernel
theorem dX5_addPayment_4 : decode cX5_addPayment 4 = .ok (.bipush 6, 2) := by decide +kernel
theorem dX5_addPayment_6 : decode cX5_addPayment 6 = .ok (.if_icmp .lt 5, 3) := by decide +kernel
theorem dX5_addPayment_9 : decode cX5_addPayment 9 = .ok (.iconst 0, 1) := by decide +kernel
theorem dX5_addPayment_10 : decode cX5_addPayment 10 = .ok (.ireturn, 1) := by decide +kernel
theorem dX5_addPayment_11 : decode cX5_addPayment 11 = .ok (.aload_n 0, 1) := by decide +kernel
theorem dX5_addPayment_12 : decode cX5_addPayment 12 = .ok (.getfield 9, 3) := by decide +kernel
theorem dX5_addPayment_15 : decode cX5_addPayment 15 = .ok (.aload_n 0, 1) := by decide +kernel
theorem dX5_addPayment_16 : decode cX5_addPayment 16 = .ok (.getfield 24, 3) := by decide +kernel
theorem dX5_addPayment_19 : decode cX5_addPayment 19 = .ok (.iload_n 1, 1) := by decide +kernel
theorem dX5_addPayment_20 : decode cX5_addPayment 20 = .ok (.iastore, 1) := by decide +kernel
theorem dX5_addPayment_21 : decode cX5_addPayment 21 = .ok (.aload_n 0, 1) := by decide +kernel
theorem dX5_addPayment_22 : decode cX5_addPayment 22 = .ok (.getfield 15, 3) := by decide +kernel
theorem dX5_addPayment_25 : decode cX5_addPayment 25 = .ok (.aload_n 0, 1) := by decide +kernel
theorem dX5_addPayment_26 : decode cX5_addPayment 26 = .ok (.getfield 24, 3) := by decide +kernel
theorem dX5_addPayment_29 : decode cX5_addPayment 29 = .ok (.iload_n 2, 1) := by decide +kernel
theorem dX5_addPayment_30 : decode cX5_addPayment 30 = .ok (.iastore, 1) := by decide +kernel
theorem dX5_addPayment_31 : decode cX5_addPayment 31 = .ok (.aload_n 0, 1) := by decide +kernel
theorem dX5_addPayment_32 : decode cX5_addPayment 32 = .ok (.dup, 1) := by decide +kernel
theorem dX5_addPayment_33 : decode cX5_addPayment 33 = .ok (.getfield 24, 3) := by decide +kernel
theorem dX5_addPayment_36 : decode cX5_addPayment 36 = .ok (.iconst 1, 1) := by decide +kernel
theorem dX5_addPayment_37 : decode cX5_addPayment 37 = .ok (.iadd, 1) := by decide +kernel
theorem dX5_addPayment_38 : decode cX5_addPayment 38 = .ok (.putfield 24, 3) := by decide +kernel
theorem dX5_addPayment_41 : decode cX5_addPayment 41 = .ok (.iconst 1, 1) := by decide +kernel
theorem dX5_addPayment_42 : decode cX5_addPayment 42 = .ok (.ireturn, 1) := by decide +kernel
theorem dX5_addEntry_0 : decode cX5_addEntry 0 = .ok (.aload_n 0, 1) := by decide +kernel
theorem dX5_addEntry_1 : decode cX5_addEntry 1 = .ok (.getfield 28, 3) := by decide +kernel
theorem dX5_addEntry_4 : decode cX5_addEntry 4 = .ok (.bipush 15, 2) := by decide +kernel
theorem dX5_addEntry_6 : decode cX5_addEntry 6 = .ok (.if_icmp .lt 5, 3) := by decide +kernel
theorem dX5_addEntry_9 : decode cX5_addEntry 9 = .ok (.iconst 0, 1) := by decide +kernel
theorem dX5_addEntry_10 : decode cX5_addEntry 10 = .ok (.ireturn, 1) := by decide +kernel
theorem dX5_addEntry_11 : decode cX5_addEntry 11 = .ok (.aload_n 0, 1) := by decide +kernel
theorem dX5_addEntry_12 : decode cX5_addEntry 12 = .ok (.getfield 18, 3) := by decide +kernel
theorem dX5_addEntry_15 : decode cX5_addEntry 15 = .ok (.aload_n 0, 1) := by decide +kernel
theorem dX5_addEntry_16 : decode cX5_addEntry 16 = .ok (.getfield 28, 3) := by decide +kernel
theorem dX5_addEntry_19 : decode cX5_addEntry 19 = .ok (.iload_n 1, 1) := by decide +kernel
theorem dX5_addEntry_20 : decode cX5_addEntry 20 = .ok (.iastore, 1) := by decide +kernel
theorem dX5_addEntry_21 : decode cX5_addEntry 21 = .ok (.aload_n 0, 1) := by decide +kernel
theorem dX5_addEntry_22 : decode cX5_addEntry 22 = .ok (.getfield 21, 3) := by decide +kernel
theorem dX5_addEntry_25 : decode cX5_addEntry 25 = .ok (.aload_n 0, 1) := by decide +kernel
theorem dX5_addEntry_26 : decode cX5_addEntry 26 = .ok (.getfield 28, 3) := by decide +kernel
theorem dX5_addEntry_29 : decode cX5_addEntry 29 = .ok (.iload_n 2, 1) := by decide +kernel
theorem dX5_addEntry_30 : decode cX5_addEntry 30 = .ok (.iastore, 1) := by decide +kernel
theorem dX5_addEntry_31 : decode cX5_addEntry 31 = .ok (.aload_n 0, 1) := by decide +kernel
theorem dX5_addEntry_32 : decode cX5_addEntry 32 = .ok (.dup, 1) := by decide +kernel
theorem dX5_addEntry_33 : decode cX5_addEntry 33 = .ok (.getfield 28, 3) := by decide +kernel
theorem dX5_addEntry_36 : decode cX5_addEntry 36 = .ok (.iconst 1, 1) := by decide +kernel
theorem dX5_addEntry_37 : decode cX5_addEntry 37 = .ok (.iadd, 1) := by decide +kernel
theorem dX5_addEntry_38 : decode cX5_addEntry 38 = .ok (.putfield 28, 3) := by decide +kernel
theorem dX5_addEntry_41 : decode cX5_addEntry 41 = .ok (.iconst 1, 1) := by decide +kernel
theorem dX5_addEntry_42 : decode cX5_addEntry 42 = .ok (.ireturn, 1) := by decide +kernel
theorem dX5_firstWrong_0 : decode cX5_firstWrong 0 = .ok (.iconst 0, 1) := by decide +kernel
theorem dX5_firstWrong_1 : decode cX5_firstWrong 1 = .ok (.istore_n 2, 1) := by decide +kernel
theorem dX5_firstWrong_2 : decode cX5_firstWrong 2 = .ok (.iload_n 2, 1) := by decide +kernel
theorem dX5_firstWrong_3 : decode cX5_firstWrong 3 = .ok (.aload_n 0, 1) := by decide +kernel
theorem dX5_firstWrong_4 : decode cX5_firstWrong 4 = .ok (.getfield 28, 3) := by decide +kernel
theorem dX5_firstWrong_7 : decode cX5_firstWrong 7 = .ok (.if_icmp .ge 44, 3) := by decide +kernel
theorem dX5_firstWrong_10 : decode cX5_firstWrong 10 = .ok (.aload_n 0, 1) := by decide +kernel
theorem dX5_firstWrong_11 : decode cX5_firstWrong 11 = .ok (.getfield 18, 3) := by decide +kernel
theorem dX5_firstWrong_14 : decode cX5_firstWrong 14 = .ok (.iload_n 2, 1) := by decide +kernel
theorem dX5_firstWrong_15 : decode cX5_firstWrong 15 = .ok (.iaload, 1) := by decide +kernel
theorem dX5_firstWrong_16 : decode cX5_firstWrong 16 = .ok (.istore_n 3, 1) := by decide +kernel
theorem dX5_firstWrong_17 : decode cX5_firstWrong 17 = .ok (.aload_n 1, 1) := by decide +kernel
theorem dX5_firstWrong_18 : decode cX5_firstWrong 18 = .ok (.getfield 31, 3) := by decide +kernel
theorem dX5_firstWrong_21 : decode cX5_firstWrong 21 = .ok (.iload_n 3, 1) := by decide +kernel
theorem dX5_firstWrong_22 : decode cX5_firstWrong 22 = .ok (.invokevirtual 37, 3) := by decide +kernel
theorem dX5_firstWrong_25 : decode cX5_firstWrong 25 = .ok (.ifCond .eq 20, 3) := by decide +kernel
theorem dX5_firstWrong_28 : decode cX5_firstWrong 28 = .ok (.aload_n 1, 1) := by decide +kernel
theorem dX5_firstWrong_29 : decode cX5_firstWrong 29 = .ok (.getfield 43, 3) := by decide +kernel
theorem dX5_firstWrong_32 : decode cX5_firstWrong 32 = .ok (.iload_n 3, 1) := by decide +kernel
theorem dX5_firstWrong_33 : decode cX5_firstWrong 33 = .ok (.iaload, 1) := by decide +kernel
theorem dX5_firstWrong_34 : decode cX5_firstWrong 34 = .ok (.aload_n 0, 1) := by decide +kernel
theorem dX5_firstWrong_35 : decode cX5_firstWrong 35 = .ok (.getfield 21, 3) := by decide +kernel
theorem dX5_firstWrong_38 : decode cX5_firstWrong 38 = .ok (.iload_n 2, 1) := by decide +kernel
theorem dX5_firstWrong_39 : decode cX5_firstWrong 39 = .ok (.iaload, 1) := by decide +kernel
theorem dX5_firstWrong_40 : decode cX5_firstWrong 40 = .ok (.if_icmp .eq 5, 3) := by decide +kernel
theorem dX5_firstWrong_43 : decode cX5_firstWrong 43 = .ok (.iload_n 2, 1) := by decide +kernel
theorem dX5_firstWrong_44 : decode cX5_firstWrong 44 = .ok (.ireturn, 1) := by decide +kernel
theorem dX5_firstWrong_45 : decode cX5_firstWrong 45 = .ok (.iinc 2 1, 3) := by decide +kernel
theorem dX5_firstWrong_48 : decode cX5_firstWrong 48 = .ok (.goto (-46), 3) := by decide +kernel
theorem dX5_firstWrong_51 : decode cX5_firstWrong 51 = .ok (.iconst (-1), 1) := by decide +kernel
theorem dX5_firstWrong_52 : decode cX5_firstWrong 52 = .ok (.ireturn, 1) := by decide +kernel
theorem dX5_fits_0 : decode cX5_fits 0 = .ok (.iconst 0, 1) := by decide +kernel
theorem dX5_fits_1 : decode cX5_fits 1 = .ok (.istore_n 3, 1) := by decide +kernel
theorem dX5_fits_2 : decode cX5_fits 2 = .ok (.iload_n 3, 1) := by decide +kernel
theorem dX5_fits_3 : decode cX5_fits 3 = .ok (.aload_n 0, 1) := by decide +kernel
theorem dX5_fits_4 : decode cX5_fits 4 = .ok (.getfield 24, 3) := by decide +kernel
theorem dX5_fits_7 : decode cX5_fits 7 = .ok (.if_icmp .ge 31, 3) := by decide +kernel
theorem dX5_fits_10 : decode cX5_fits 10 = .ok (.aload_n 2, 1) := by decide +kernel
theorem dX5_fits_11 : decode cX5_fits 11 = .ok (.iload_n 1, 1) := by decide +kernel
theorem dX5_fits_12 : decode cX5_fits 12 = .ok (.aload_n 0, 1) := by decide +kernel
theorem dX5_fits_13 : decode cX5_fits 13 = .ok (.getfield 9, 3) := by decide +kernel
theorem dX5_fits_16 : decode cX5_fits 16 = .ok (.iload_n 3, 1) := by decide +kernel
theorem dX5_fits_17 : decode cX5_fits 17 = .ok (.iaload, 1) := by decide +kernel
theorem dX5_fits_18 : decode cX5_fits 18 = .ok (.invokevirtual 46, 3) := by decide +kernel
theorem dX5_fits_21 : decode cX5_fits 21 = .ok (.aload_n 0, 1) := by decide +kernel
theorem dX5_fits_22 : decode cX5_fits 22 = .ok (.getfield 15, 3) := by decide +kernel
theorem dX5_fits_25 : decode cX5_fits 25 = .ok (.iload_n 3, 1) := by decide +kernel
theorem dX5_fits_26 : decode cX5_fits 26 = .ok (.iaload, 1) := by decide +kernel
theorem dX5_fits_27 : decode cX5_fits 27 = .ok (.if_icmp .eq 5, 3) := by decide +kernel
theorem dX5_fits_30 : decode cX5_fits 30 = .ok (.iconst 0, 1) := by decide +kernel
theorem dX5_fits_31 : decode cX5_fits 31 = .ok (.ireturn, 1) := by decide +kernel
theorem dX5_fits_32 : decode cX5_fits 32 = .ok (.iinc 3 1, 3) := by decide +kernel
theorem dX5_fits_35 : decode cX5_fits 35 = .ok (.goto (-33), 3) := by decide +kernel
theorem dX5_fits_38 : decode cX5_fits 38 = .ok (.iconst 1, 1) := by decide +kernel
theorem dX5_fits_39 : decode cX5_fits 39 = .ok (.ireturn, 1) := by decide +kernel
theorem dX6_init_0 : decode cX6_init 0 = .ok (.aload_n 0, 1) := by decide +kernel
theorem dX6_init_1 : decode cX6_init 1 = .ok (.invokespecial 3, 3) := by decide +kernel
theorem dX6_init_4 : decode cX6_init 4 = .ok (.aload_n 0, 1) := by decide +kernel
theorem dX6_init_5 : decode cX6_init 5 = .ok (.bipush 16, 2) := by decide +kernel
theorem dX6_init_7 : decode cX6_init 7 = .ok (.anewarray 9, 3) := by decide +kernel
theorem dX6_init_10 : decode cX6_init 10 = .ok (.putfield 11, 3) := by decide +kernel
theorem dX6_init_13 : decode cX6_init 13 = .ok (.aload_n 0, 1) := by decide +kernel
theorem dX6_init_14 : decode cX6_init 14 = .ok (.iconst 0, 1) := by decide +kernel
theorem dX6_init_15 : decode cX6_init 15 = .ok (.putfield 17, 3) := by decide +kernel
theorem dX6_init_18 : decode cX6_init 18 = .ok (.aload_n 0, 1) := by decide +kernel
theorem dX6_init_19 : decode cX6_init 19 = .ok (.iconst 0, 1) := by decide +kernel
theorem dX6_init_20 : decode cX6_init 20 = .ok (.putfield 21, 3) := by decide +kernel
theorem dX6_init_23 : decode cX6_init 23 = .ok (.iconst 0, 1) := by decide +kernel
theorem dX6_init_24 : decode cX6_init 24 = .ok (.istore_n 2, 1) := by decide +kernel
theorem dX6_init_25 : decode cX6_init 25 = .ok (.iload_n 2, 1) := by decide +kernel
theorem dX6_init_26 : decode cX6_init 26 = .ok (.bipush 16, 2) := by decide +kernel
theorem dX6_init_28 : decode cX6_init 28 = .ok (.if_icmp .ge 23, 3) := by decide +kernel
theorem dX6_init_31 : decode cX6_init 31 = .ok (.aload_n 0, 1) := by decide +kernel
theorem dX6_init_32 : decode cX6_init 32 = .ok (.getfield 11, 3) := by decide +kernel
theorem dX6_init_35 : decode cX6_init 35 = .ok (.iload_n 2, 1) := by decide +kernel
theorem dX6_init_36 : decode cX6_init 36 = .ok (.new 9, 3) := by decide +kernel
theorem dX6_init_39 : decode cX6_init 39 = .ok (.dup, 1) := by decide +kernel
theorem dX6_init_40 : decode cX6_init 40 = .ok (.aload_n 1, 1) := by decide +kernel
theorem dX6_init_41 : decode cX6_init 41 = .ok (.invokespecial 24, 3) := by decide +kernel
theorem dX6_init_44 : decode cX6_init 44 = .ok (.aastore, 1) := by decide +kernel
theorem dX6_init_45 : decode cX6_init 45 = .ok (.iinc 2 1, 3) := by decide +kernel
theorem dX6_init_48 : decode cX6_init 48 = .ok (.goto (-23), 3) := by decide +kernel
theorem dX6_init_51 : decode cX6_init 51 = .ok (.return_, 1) := by decide +kernel
theorem dX6_forget_0 : decode cX6_forget 0 = .ok (.aload_n 0, 1) := by decide +kernel
theorem dX6_forget_1 : decode cX6_forget 1 = .ok (.iconst 0, 1) := by decide +kernel
theorem dX6_forget_2 : decode cX6_forget 2 = .ok (.putfield 21, 3) := by decide +kernel
theorem dX6_forget_5 : decode cX6_forget 5 = .ok (.return_, 1) := by decide +kernel
theorem dX6_mark_0 : decode cX6_mark 0 = .ok (.aload_n 0, 1) := by decide +kernel
theorem dX6_mark_1 : decode cX6_mark 1 = .ok (.getfield 11, 3) := by decide +kernel
theorem dX6_mark_4 : decode cX6_mark 4 = .ok (.aload_n 0, 1) := by decide +kernel
theorem dX6_mark_5 : decode cX6_mark 5 = .ok (.getfield 17, 3) := by decide +kernel
theorem dX6_mark_8 : decode cX6_mark 8 = .ok (.aaload, 1) := by decide +kernel
theorem dX6_mark_9 : decode cX6_mark 9 = .ok (.aload_n 1, 1) := by decide +kernel
theorem dX6_mark_10 : decode cX6_mark 10 = .ok (.invokevirtual 27, 3) := by decide +kernel
theorem dX6_mark_13 : decode cX6_mark 13 = .ok (.aload_n 0, 1) := by decide +kernel
theorem dX6_mark_14 : decode cX6_mark 14 = .ok (.aload_n 0, 1) := by decide +kernel
theorem dX6_mark_15 : decode cX6_mark 15 = .ok (.getfield 17, 3) := by decide +kernel
theorem dX6_mark_18 : decode cX6_mark 18 = .ok (.iconst 1, 1) := by decide +kernel
theorem dX6_mark_19 : decode cX6_mark 19 = .ok (.iadd, 1) := by decide +kernel
theorem dX6_mark_20 : decode cX6_mark 20 = .ok (.bipush 16, 2) := by decide +kernel
theorem dX6_mark_22 : decode cX6_mark 22 = .ok (.irem, 1) := by decide +kernel
theorem dX6_mark_23 : decode cX6_mark 23 = .ok (.putfield 17, 3) := by decide +kernel
theorem dX6_mark_26 : decode cX6_mark 26 = .ok (.aload_n 0, 1) := by decide +kernel
theorem dX6_mark_27 : decode cX6_mark 27 = .ok (.bipush 16, 2) := by decide +kernel
theorem dX6_mark_29 : decode cX6_mark 29 = .ok (.aload_n 0, 1) := by decide +kernel
theorem dX6_mark_30 : decode cX6_mark 30 = .ok (.getfield 21, 3) := by decide +kernel
theorem dX6_mark_33 : decode cX6_mark 33 = .ok (.iconst 1, 1) := by decide +kernel
theorem dX6_mark_34 : decode cX6_mark 34 = .ok (.iadd, 1) := by decide +kernel
theorem dX6_mark_35 : decode cX6_mark 35 = .ok (.invokestatic 31, 3) := by decide +kernel
theorem dX6_mark_38 : decode cX6_mark 38 = .ok (.putfield 21, 3) := by decide +kernel
theorem dX6_mark_41 : decode cX6_mark 41 = .ok (.return_, 1) := by decide +kernel
theorem dX6_restore_0 : decode cX6_restore 0 = .ok (.aload_n 0, 1) := by decide +kernel
theorem dX6_restore_1 : decode cX6_restore 1 = .ok (.getfield 21, 3) := by decide +kernel
theorem dX6_restore_4 : decode cX6_restore 4 = .ok (.ifCond .ne 5, 3) := by decide +kernel
theorem dX6_restore_7 : decode cX6_restore 7 = .ok (.iconst 0, 1) := by decide +kernel
theorem dX6_restore_8 : decode cX6_restore 8 = .ok (.ireturn, 1) := by decide +kernel
theorem dX6_restore_9 : decode cX6_restore 9 = .ok (.aload_n 0, 1) := by decide +kernel
theorem dX6_restore_10 : decode cX6_restore 10 = .ok (.aload_n 0, 1) := by decide +kernel
theorem dX6_restore_11 : decode cX6_restore 11 = .ok (.getfield 17, 3) := by decide +kernel
theorem dX6_restore_14 : decode cX6_restore 14 = .ok (.bipush 16, 2) := by decide +kernel
theorem dX6_restore_16 : decode cX6_restore 16 = .ok (.iadd, 1) := by decide +kernel
theorem dX6_restore_17 : decode cX6_restore 17 = .ok (.iconst 1, 1) := by decide +kernel
theorem dX6_restore_18 : decode cX6_restore 18 = .ok (.isub, 1) := by decide +kernel
theorem dX6_restore_19 : decode cX6_restore 19 = .ok (.bipush 16, 2) := by decide +kernel
theorem dX6_restore_21 : decode cX6_restore 21 = .ok (.irem, 1) := by decide +kernel
theorem dX6_restore_22 : decode cX6_restore 22 = .ok (.putfield 17, 3) := by decide +kernel
theorem dX6_restore_25 : decode cX6_restore 25 = .ok (.aload_n 0, 1) := by decide +kernel
theorem dX6_restore_26 : decode cX6_restore 26 = .ok (.dup, 1) := by decide +kernel
theorem dX6_restore_27 : decode cX6_restore 27 = .ok (.getfield 21, 3) := by decide +kernel
theorem dX6_restore_30 : decode cX6_restore 30 = .ok (.iconst 1, 1) := by decide +kernel
theorem dX6_restore_31 : decode cX6_restore 31 = .ok (.isub, 1) := by decide +kernel
theorem dX6_restore_32 : decode cX6_restore 32 = .ok (.putfield 21, 3) := by decide +kernel
theorem dX6_restore_35 : decode cX6_restore 35 = .ok (.aload_n 1, 1) := by decide +kernel
theorem dX6_restore_36 : decode cX6_restore 36 = .ok (.aload_n 0, 1) := by decide +kernel
theorem dX6_restore_37 : decode cX6_restore 37 = .ok (.getfield 11, 3) := by decide +kernel
theorem dX6_restore_40 : decode cX6_restore 40 = .ok (.aload_n 0, 1) := by decide +kernel
theorem dX6_restore_41 : decode cX6_restore 41 = .ok (.getfield 17, 3) := by decide +kernel
theorem dX6_restore_44 : decode cX6_restore 44 = .ok (.aaload, 1) := by decide +kernel
theorem dX6_restore_45 : decode cX6_restore 45 = .ok (.invokevirtual 27, 3) := by decide +kernel
theorem dX6_restore_48 : decode cX6_restore 48 = .ok (.iconst 1, 1) := by decide +kernel
theorem dX6_restore_49 : decode cX6_restore 49 = .ok (.ireturn, 1) := by decide +kernel
theorem dX7_init_0 : decode cX7_init 0 = .ok (.aload_n 0, 1) := by decide +kernel
theorem dX7_init_1 : decode cX7_init 1 = .ok (.invokespecial 3, 3) := by decide +kernel
theorem dX7_init_4 : decode cX7_init 4 = .ok (.aload_n 0, 1) := by decide +kernel
theorem dX7_init_5 : decode cX7_init 5 = .ok (.sipush 240, 3) := by decide +kernel
theorem dX7_init_8 : decode cX7_init 8 = .ok (.newarray .int, 2) := by decide +kernel
theorem dX7_init_10 : decode cX7_init 10 = .ok (.putfield 9, 3) := by decide +kernel
theorem dX7_init_13 : decode cX7_init 13 = .ok (.aload_n 0, 1) := by decide +kernel
theorem dX7_init_14 : decode cX7_init 14 = .ok (.iconst 0, 1) := by decide +kernel
theorem dX7_init_15 : decode cX7_init 15 = .ok (.putfield 15, 3) := by decide +kernel
theorem dX7_init_18 : decode cX7_init 18 = .ok (.aload_n 0, 1) := by decide +kernel
theorem dX7_init_19 : decode cX7_init 19 = .ok (.iconst 0, 1) := by decide +kernel
theorem dX7_init_20 : decode cX7_init 20 = .ok (.putfield 19, 3) := by decide +kernel
theorem dX7_init_23 : decode cX7_init 23 = .ok (.aload_n 0, 1) := by decide +kernel
theorem dX7_init_24 : decode cX7_init 24 = .ok (.iconst 0, 1) := by decide +kernel
theorem dX7_init_25 : decode cX7_init 25 = .ok (.putfield 22, 3) := by decide +kernel
theorem dX7_init_28 : decode cX7_init 28 = .ok (.aload_n 0, 1) := by decide +kernel
theorem dX7_init_29 : decode cX7_init 29 = .ok (.iconst (-1), 1) := by decide +kernel
theorem dX7_init_30 : decode cX7_init 30 = .ok (.putfield 25, 3) := by decide +kernel
theorem dX7_init_33 : decode cX7_init 33 = .ok (.return_, 1) := by decide +kernel
theorem dX7_append_0 : decode cX7_append 0 = .ok (.aload_n 0, 1) := by decide +kernel
theorem dX7_append_1 : decode cX7_append 1 = .ok (.getfield 15, 3) := by decide +kernel
theorem dX7_append_4 : decode cX7_append 4 = .ok (.sipush 240, 3) := by decide +kernel
theorem dX7_append_7 : decode cX7_append 7 = .ok (.if_icmp .lt 5, 3) := by decide +kernel
theorem dX7_append_10 : decode cX7_append 10 = .ok (.iconst 0, 1) := by decide +kernel
theorem dX7_append_11 : decode cX7_append 11 = .ok (.ireturn, 1) := by decide +kernel
theorem dX7_append_12 : decode cX7_append 12 = .ok (.aload_n 0, 1) := by decide +kernel
theorem dX7_append_13 : decode cX7_append 13 = .ok (.getfield 9, 3) := by decide +kernel
theorem dX7_append_16 : decode cX7_append 16 = .ok (.aload_n 0, 1) := by decide +kernel
theorem dX7_append_17 : decode cX7_append 17 = .ok (.getfield 15, 3) := by decide +kernel
theorem dX7_append_20 : decode cX7_append 20 = .ok (.iload_n 1, 1) := by decide +kernel
theorem dX7_append_21 : decode cX7_append 21 = .ok (.iastore, 1) := by decide +kernel
theorem dX7_append_22 : decode cX7_append 22 = .ok (.aload_n 0, 1) := by decide +kernel
theorem dX7_append_23 : decode cX7_append 23 = .ok (.dup, 1) := by decide +kernel
theorem dX7_append_24 : decode cX7_append 24 = .ok (.getfield 15, 3) := by decide +kernel
theorem dX7_append_27 : decode cX7_append 27 = .ok (.iconst 1, 1) := by decide +kernel
theorem dX7_append_28 : decode cX7_append 28 = .ok (.iadd, 1) := by decide +kernel
theorem dX7_append_29 : decode cX7_append 29 = .ok (.putfield 15, 3) := by decide +kernel
theorem dX7_append_32 : decode cX7_append 32 = .ok (.iconst 1, 1) := by decide +kernel
theorem dX7_append_33 : decode cX7_append 33 = .ok (.ireturn, 1) := by decide +kernel
theorem dX7_readInto_0 : decode cX7_readInto 0 = .ok (.aload_n 0, 1) := by decide +kernel
theorem dX7_readInto_1 : decode cX7_readInto 1 = .ok (.iconst 0, 1) := by decide +kernel
theorem dX7_readInto_2 : decode cX7_readInto 2 = .ok (.putfield 19, 3) := by decide +kernel
theorem dX7_readInto_5 : decode cX7_readInto 5 = .ok (.aload_n 0, 1) := by decide +kernel
theorem dX7_readInto_6 : decode cX7_readInto 6 = .ok (.iconst 0, 1) := by decide +kernel
theorem dX7_readInto_7 : decode cX7_readInto 7 = .ok (.putfield 22, 3) := by decide +kernel
theorem dX7_readInto_10 : decode cX7_readInto 10 = .ok (.aload_n 0, 1) := by decide +kernel
theorem dX7_readInto_11 : decode cX7_readInto 11 = .ok (.iconst (-1), 1) := by decide +kernel
theorem dX7_readInto_12 : decode cX7_readInto 12 = .ok (.putfield 25, 3) := by decide +kernel
theorem dX7_readInto_15 : decode cX7_readInto 15 = .ok (.aload_n 1, 1) := by decide +kernel
theorem dX7_readInto_16 : decode cX7_readInto 16 = .ok (.invokevirtual 28, 3) := by decide +kernel
theorem dX7_readInto_19 : decode cX7_readInto 19 = .ok (.aload_n 0, 1) := by decide +kernel
theorem dX7_readInto_20 : decode cX7_readInto 20 = .ok (.invokevirtual 33, 3) := by decide +kernel
theorem dX7_readInto_23 : decode cX7_readInto 23 = .ok (.iconst 0, 1) := by decide +kernel
theorem dX7_readInto_24 : decode cX7_readInto 24 = .ok (.istore_n 2, 1) := by decide +kernel
theorem dX7_readInto_25 : decode cX7_readInto 25 = .ok (.iload_n 2, 1) := by decide +kernel
theorem dX7_readInto_26 : decode cX7_readInto 26 = .ok (.sipush 240, 3) := by decide +kernel
theorem dX7_readInto_29 : decode cX7_readInto 29 = .ok (.if_icmp .ge 36, 3) := by decide +kernel
theorem dX7_readInto_32 : decode cX7_readInto 32 = .ok (.aload_n 0, 1) := by decide +kernel
theorem dX7_readInto_33 : decode cX7_readInto 33 = .ok (.getfield 19, 3) := by decide +kernel
theorem dX7_readInto_36 : decode cX7_readInto 36 = .ok (.aload_n 0, 1) := by decide +kernel
theorem dX7_readInto_37 : decode cX7_readInto 37 = .ok (.getfield 15, 3) := by decide +kernel
theorem dX7_readInto_40 : decode cX7_readInto 40 = .ok (.if_icmp .ge 25, 3) := by decide +kernel
theorem dX7_readInto_43 : decode cX7_readInto 43 = .ok (.aload_n 0, 1) := by decide +kernel
theorem dX7_readInto_44 : decode cX7_readInto 44 = .ok (.getfield 22, 3) := by decide +kernel
theorem dX7_readInto_47 : decode cX7_readInto 47 = .ok (.ifCond .ne 18, 3) := by decide +kernel
theorem dX7_readInto_50 : decode cX7_readInto 50 = .ok (.aload_n 0, 1) := by decide +kernel
theorem dX7_readInto_51 : decode cX7_readInto 51 = .ok (.aload_n 1, 1) := by decide +kernel
theorem dX7_readInto_52 : decode cX7_readInto 52 = .ok (.invokevirtual 36, 3) := by decide +kernel
theorem dX7_readInto_55 : decode cX7_readInto 55 = .ok (.aload_n 0, 1) := by decide +kernel
theorem dX7_readInto_56 : decode cX7_readInto 56 = .ok (.invokevirtual 33, 3) := by decide +kernel
theorem dX7_readInto_59 : decode cX7_readInto 59 = .ok (.iinc 2 1, 3) := by decide +kernel
theorem dX7_readInto_62 : decode cX7_readInto 62 = .ok (.goto (-37), 3) := by decide +kernel
theorem dX7_readInto_65 : decode cX7_readInto 65 = .ok (.aload_n 0, 1) := by decide +kernel
theorem dX7_readInto_66 : decode cX7_readInto 66 = .ok (.iconst 0, 1) := by decide +kernel
theorem dX7_readInto_67 : decode cX7_readInto 67 = .ok (.putfield 15, 3) := by decide +kernel
theorem dX7_readInto_70 : decode cX7_readInto 70 = .ok (.aload_n 0, 1) := by decide +kernel
theorem dX7_readInto_71 : decode cX7_readInto 71 = .ok (.getfield 22, 3) := by decide +kernel
theorem dX7_readInto_74 : decode cX7_readInto 74 = .ok (.ireturn, 1) := by decide +kernel
theorem dX7_readClause_0 : decode cX7_readClause 0 = .ok (.aload_n 0, 1) := by decide +kernel
theorem dX7_readClause_1 : decode cX7_readClause 1 = .ok (.invokevirtual 40, 3) := by decide +kernel
theorem dX7_readClause_4 : decode cX7_readClause 4 = .ok (.istore_n 2, 1) := by decide +kernel
theorem dX7_readClause_5 : decode cX7_readClause 5 = .ok (.aload_n 1, 1) := by decide +kernel
theorem dX7_readClause_6 : decode cX7_readClause 6 = .ok (.invokevirtual 44, 3) := by decide +kernel
theorem dX7_readClause_9 : decode cX7_readClause 9 = .ok (.istore_n 3, 1) := by decide +kernel
theorem dX7_readClause_10 : decode cX7_readClause 10 = .ok (.iload_n 2, 1) := by decide +kernel
theorem dX7_readClause_11 : decode cX7_readClause 11 = .ok (.bipush 100, 2) := by decide +kernel
theorem dX7_readClause_13 : decode cX7_readClause 13 = .ok (.if_icmp .eq 31, 3) := by decide +kernel
theorem dX7_readClause_16 : decode cX7_readClause 16 = .ok (.iload_n 3, 1) := by decide +kernel
theorem dX7_readClause_17 : decode cX7_readClause 17 = .ok (.ifCond .ne 15, 3) := by decide +kernel
theorem dX7_readClause_20 : decode cX7_readClause 20 = .ok (.iload_n 2, 1) := by decide +kernel
theorem dX7_readClause_21 : decode cX7_readClause 21 = .ok (.bipush 115, 2) := by decide +kernel
theorem dX7_readClause_23 : decode cX7_readClause 23 = .ok (.if_icmp .eq 21, 3) := by decide +kernel
theorem dX7_readClause_26 : decode cX7_readClause 26 = .ok (.iload_n 2, 1) := by decide +kernel
theorem dX7_readClause_27 : decode cX7_readClause 27 = .ok (.bipush 105, 2) := by decide +kernel
theorem dX7_readClause_29 : decode cX7_readClause 29 = .ok (.if_icmp .eq 15, 3) := by decide +kernel
theorem dX7_readClause_32 : decode cX7_readClause 32 = .ok (.aload_n 0, 1) := by decide +kernel
theorem dX7_readClause_33 : decode cX7_readClause 33 = .ok (.iconst 1, 1) := by decide +kernel
theorem dX7_readClause_34 : decode cX7_readClause 34 = .ok (.aload_n 0, 1) := by decide +kernel
theorem dX7_readClause_35 : decode cX7_readClause 35 = .ok (.getfield 19, 3) := by decide +kernel
theorem dX7_readClause_38 : decode cX7_readClause 38 = .ok (.invokevirtual 48, 3) := by decide +kernel
theorem dX7_readClause_41 : decode cX7_readClause 41 = .ok (.goto 70, 3) := by decide +kernel
theorem dX7_readClause_44 : decode cX7_readClause 44 = .ok (.iload_n 2, 1) := by decide +kernel
theorem dX7_readClause_45 : decode cX7_readClause 45 = .ok (.bipush 100, 2) := by decide +kernel
theorem dX7_readClause_47 : decode cX7_readClause 47 = .ok (.if_icmp .ne 7, 3) := by decide +kernel
theorem dX7_readClause_50 : decode cX7_readClause 50 = .ok (.iload_n 3, 1) := by decide +kernel
theorem dX7_readClause_51 : decode cX7_readClause 51 = .ok (.ifCond .eq 32, 3) := by decide +kernel
theorem dX7_readClause_54 : decode cX7_readClause 54 = .ok (.iload_n 2, 1) := by decide +kernel
theorem dX7_readClause_55 : decode cX7_readClause 55 = .ok (.bipush 115, 2) := by decide +kernel
theorem dX7_readClause_57 : decode cX7_readClause 57 = .ok (.if_icmp .ne 12, 3) := by decide +kernel
theorem dX7_readClause_60 : decode cX7_readClause 60 = .ok (.aload_n 1, 1) := by decide +kernel
theorem dX7_readClause_61 : decode cX7_readClause 61 = .ok (.getfield 52, 3) := by decide +kernel
theorem dX7_readClause_64 : decode cX7_readClause 64 = .ok (.bipush 7, 2) := by decide +kernel
theorem dX7_readClause_66 : decode cX7_readClause 66 = .ok (.if_icmp .eq 17, 3) := by decide +kernel
theorem dX7_readClause_69 : decode cX7_readClause 69 = .ok (.iload_n 2, 1) := by decide +kernel
theorem dX7_readClause_70 : decode cX7_readClause 70 = .ok (.bipush 105, 2) := by decide +kernel
theorem dX7_readClause_72 : decode cX7_readClause 72 = .ok (.if_icmp .ne 23, 3) := by decide +kernel
theorem dX7_readClause_75 : decode cX7_readClause 75 = .ok (.aload_n 1, 1) := by decide +kernel
theorem dX7_readClause_76 : decode cX7_readClause 76 = .ok (.getfield 55, 3) := by decide +kernel
theorem dX7_readClause_79 : decode cX7_readClause 79 = .ok (.iconst 4, 1) := by decide +kernel
theorem dX7_readClause_80 : decode cX7_readClause 80 = .ok (.if_icmp .ne 15, 3) := by decide +kernel
theorem dX7_readClause_83 : decode cX7_readClause 83 = .ok (.aload_n 0, 1) := by decide +kernel
theorem dX7_readClause_84 : decode cX7_readClause 84 = .ok (.iconst 3, 1) := by decide +kernel
theorem dX7_readClause_85 : decode cX7_readClause 85 = .ok (.aload_n 0, 1) := by decide +kernel
theorem dX7_readClause_86 : decode cX7_readClause 86 = .ok (.getfield 19, 3) := by decide +kernel
theorem dX7_readClause_89 : decode cX7_readClause 89 = .ok (.invokevirtual 48, 3) := by decide +kernel
theorem dX7_readClause_92 : decode cX7_readClause 92 = .ok (.goto 19, 3) := by decide +kernel
theorem dX7_readClause_95 : decode cX7_readClause 95 = .ok (.aload_n 0, 1) := by decide +kernel
theorem dX7_readClause_96 : decode cX7_readClause 96 = .ok (.dup, 1) := by decide +kernel
theorem dX7_readClause_97 : decode cX7_readClause 97 = .ok (.getfield 19, 3) := by decide +kernel
theorem dX7_readClause_100 : decode cX7_readClause 100 = .ok (.iconst 1, 1) := by decide +kernel
theorem dX7_readClause_101 : decode cX7_readClause 101 = .ok (.iadd, 1) := by decide +kernel
theorem dX7_readClause_102 : decode cX7_readClause 102 = .ok (.putfield 19, 3) := by decide +kernel
theorem dX7_readClause_105 : decode cX7_readClause 105 = .ok (.aload_n 0, 1) := by decide +kernel
theorem dX7_readClause_106 : decode cX7_readClause 106 = .ok (.iload_n 2, 1) := by decide +kernel
theorem dX7_readClause_107 : decode cX7_readClause 107 = .ok (.aload_n 1, 1) := by decide +kernel
theorem dX7_readClause_108 : decode cX7_readClause 108 = .ok (.invokevirtual 58, 3) := by decide +kernel
theorem dX7_readClause_111 : decode cX7_readClause 111 = .ok (.return_, 1) := by decide +kernel
theorem dX7_readNumbers_0 : decode cX7_readNumbers 0 = .ok (.iload_n 1, 1) := by decide +kernel
theorem dX7_readNumbers_1 : decode cX7_readNumbers 1 = .ok (.bipush 100, 2) := by decide +kernel
theorem dX7_readNumbers_3 : decode cX7_readNumbers 3 = .ok (.if_icmp .ne 38, 3) := by decide +kernel
theorem dX7_readNumbers_6 : decode cX7_readNumbers 6 = .ok (.aload_n 2, 1) := by decide +kernel
theorem dX7_readNumbers_7 : decode cX7_readNumbers 7 = .ok (.aload_n 0, 1) := by decide +kernel
theorem dX7_readNumbers_8 : decode cX7_readNumbers 8 = .ok (.iconst 1, 1) := by decide +kernel
theorem dX7_readNumbers_9 : decode cX7_readNumbers 9 = .ok (.bipush 9, 2) := by decide +kernel
theorem dX7_readNumbers_11 : decode cX7_readNumbers 11 = .ok (.invokevirtual 62, 3) := by decide +kernel
theorem dX7_readNumbers_14 : decode cX7_readNumbers 14 = .ok (.putfield 66, 3) := by decide +kernel
theorem dX7_readNumbers_17 : decode cX7_readNumbers 17 = .ok (.aload_n 2, 1) := by decide +kernel
theorem dX7_readNumbers_18 : decode cX7_readNumbers 18 = .ok (.aload_n 0, 1) := by decide +kernel
theorem dX7_readNumbers_19 : decode cX7_readNumbers 19 = .ok (.iconst 1, 1) := by decide +kernel
theorem dX7_readNumbers_20 : decode cX7_readNumbers 20 = .ok (.iconst 4, 1) := by decide +kernel
theorem dX7_readNumbers_21 : decode cX7_readNumbers 21 = .ok (.invokevirtual 62, 3) := by decide +kernel
theorem dX7_readNumbers_24 : decode cX7_readNumbers 24 = .ok (.putfield 69, 3) := by decide +kernel
theorem dX7_readNumbers_27 : decode cX7_readNumbers 27 = .ok (.aload_n 2, 1) := by decide +kernel
theorem dX7_readNumbers_28 : decode cX7_readNumbers 28 = .ok (.aload_n 0, 1) := by decide +kernel
theorem dX7_readNumbers_29 : decode cX7_readNumbers 29 = .ok (.iconst 1, 1) := by decide +kernel
theorem dX7_readNumbers_30 : decode cX7_readNumbers 30 = .ok (.bipush 9, 2) := by decide +kernel
theorem dX7_readNumbers_32 : decode cX7_readNumbers 32 = .ok (.invokevirtual 62, 3) := by decide +kernel
theorem dX7_readNumbers_35 : decode cX7_readNumbers 35 = .ok (.putfield 72, 3) := by decide +kernel
theorem dX7_readNumbers_38 : decode cX7_readNumbers 38 = .ok (.goto 75, 3) := by decide +kernel
theorem dX7_readNumbers_41 : decode cX7_readNumbers 41 = .ok (.iload_n 1, 1) := by decide +kernel
theorem dX7_readNumbers_42 : decode cX7_readNumbers 42 = .ok (.bipush 115, 2) := by decide +kernel
theorem dX7_readNumbers_44 : decode cX7_readNumbers 44 = .ok (.if_icmp .ne 54, 3) := by decide +kernel
theorem dX7_readNumbers_47 : decode cX7_readNumbers 47 = .ok (.aload_n 0, 1) := by decide +kernel
theorem dX7_readNumbers_48 : decode cX7_readNumbers 48 = .ok (.iconst 0, 1) := by decide +kernel
theorem dX7_readNumbers_49 : decode cX7_readNumbers 49 = .ok (.iconst 3, 1) := by decide +kernel
theorem dX7_readNumbers_50 : decode cX7_readNumbers 50 = .ok (.invokevirtual 62, 3) := by decide +kernel
theorem dX7_readNumbers_53 : decode cX7_readNumbers 53 = .ok (.istore_n 3, 1) := by decide +kernel
theorem dX7_readNumbers_54 : decode cX7_readNumbers 54 = .ok (.aload_n 0, 1) := by decide +kernel
theorem dX7_readNumbers_55 : decode cX7_readNumbers 55 = .ok (.iconst 0, 1) := by decide +kernel
theorem dX7_readNumbers_56 : decode cX7_readNumbers 56 = .ok (.aload_n 2, 1) := by decide +kernel
theorem dX7_readNumbers_57 : decode cX7_readNumbers 57 = .ok (.getfield 69, 3) := by decide +kernel
theorem dX7_readNumbers_60 : decode cX7_readNumbers 60 = .ok (.iconst 1, 1) := by decide +kernel
theorem dX7_readNumbers_61 : decode cX7_readNumbers 61 = .ok (.isub, 1) := by decide +kernel
theorem dX7_readNumbers_62 : decode cX7_readNumbers 62 = .ok (.invokevirtual 62, 3) := by decide +kernel
theorem dX7_readNumbers_65 : decode cX7_readNumbers 65 = .ok (.istore 4, 2) := by decide +kernel
theorem dX7_readNumbers_67 : decode cX7_readNumbers 67 = .ok (.aload_n 0, 1) := by decide +kernel
theorem dX7_readNumbers_68 : decode cX7_readNumbers 68 = .ok (.iconst 0, 1) := by decide +kernel
theorem dX7_readNumbers_69 : decode cX7_readNumbers 69 = .ok (.sipush 999, 3) := by decide +kernel
theorem dX7_readNumbers_72 : decode cX7_readNumbers 72 = .ok (.invokevirtual 62, 3) := by decide +kernel
theorem dX7_readNumbers_75 : decode cX7_readNumbers 75 = .ok (.istore 5, 2) := by decide +kernel
theorem dX7_readNumbers_77 : decode cX7_readNumbers 77 = .ok (.aload_n 2, 1) := by decide +kernel
theorem dX7_readNumbers_78 : decode cX7_readNumbers 78 = .ok (.iload_n 3, 1) := by decide +kernel
theorem dX7_readNumbers_79 : decode cX7_readNumbers 79 = .ok (.iload 4, 2) := by decide +kernel
theorem dX7_readNumbers_81 : decode cX7_readNumbers 81 = .ok (.iload 5, 2) := by decide +kernel
theorem dX7_readNumbers_83 : decode cX7_readNumbers 83 = .ok (.aload_n 0, 1) := by decide +kernel
theorem dX7_readNumbers_84 : decode cX7_readNumbers 84 = .ok (.iconst 0, 1) := by decide +kernel
theorem dX7_readNumbers_85 : decode cX7_readNumbers 85 = .ok (.aload_n 2, 1) := by decide +kernel
theorem dX7_readNumbers_86 : decode cX7_readNumbers 86 = .ok (.invokevirtual 75, 3) := by decide +kernel
theorem dX7_readNumbers_89 : decode cX7_readNumbers 89 = .ok (.invokevirtual 62, 3) := by decide +kernel
theorem dX7_readNumbers_92 : decode cX7_readNumbers 92 = .ok (.invokevirtual 78, 3) := by decide +kernel
theorem dX7_readNumbers_95 : decode cX7_readNumbers 95 = .ok (.goto 18, 3) := by decide +kernel
theorem dX7_readNumbers_98 : decode cX7_readNumbers 98 = .ok (.aload_n 2, 1) := by decide +kernel
theorem dX7_readNumbers_99 : decode cX7_readNumbers 99 = .ok (.aload_n 0, 1) := by decide +kernel
theorem dX7_readNumbers_100 : decode cX7_readNumbers 100 = .ok (.iconst 0, 1) := by decide +kernel
theorem dX7_readNumbers_101 : decode cX7_readNumbers 101 = .ok (.aload_n 2, 1) := by decide +kernel
theorem dX7_readNumbers_102 : decode cX7_readNumbers 102 = .ok (.getfield 69, 3) := by decide +kernel
theorem dX7_readNumbers_105 : decode cX7_readNumbers 105 = .ok (.iconst 1, 1) := by decide +kernel
theorem dX7_readNumbers_106 : decode cX7_readNumbers 106 = .ok (.isub, 1) := by decide +kernel
theorem dX7_readNumbers_107 : decode cX7_readNumbers 107 = .ok (.invokevirtual 62, 3) := by decide +kernel
theorem dX7_readNumbers_110 : decode cX7_readNumbers 110 = .ok (.invokevirtual 82, 3) := by decide +kernel
theorem dX7_readNumbers_113 : decode cX7_readNumbers 113 = .ok (.aload_n 0, 1) := by decide +kernel
theorem dX7_readNumbers_114 : decode cX7_readNumbers 114 = .ok (.invokevirtual 86, 3) := by decide +kernel
theorem dX7_readNumbers_117 : decode cX7_readNumbers 117 = .ok (.return_, 1) := by decide +kernel
theorem dX7_readNumber_0 : decode cX7_readNumber 0 = .ok (.aload_n 0, 1) := by decide +kernel
theorem dX7_readNumber_1 : decode cX7_readNumber 1 = .ok (.getfield 22, 3) := by decide +kernel
theorem dX7_readNumber_4 : decode cX7_readNumber 4 = .ok (.ifCond .eq 5, 3) := by decide +kernel
theorem dX7_readNumber_7 : decode cX7_readNumber 7 = .ok (.iload_n 1, 1) := by decide +kernel
theorem dX7_readNumber_8 : decode cX7_readNumber 8 = .ok (.ireturn, 1) := by decide +kernel
theorem dX7_readNumber_9 : decode cX7_readNumber 9 = .ok (.aload_n 0, 1) := by decide +kernel
theorem dX7_readNumber_10 : decode cX7_readNumber 10 = .ok (.invokevirtual 33, 3) := by decide +kernel
theorem dX7_readNumber_13 : decode cX7_readNumber 13 = .ok (.aload_n 0, 1) := by decide +kernel
theorem dX7_readNumber_14 : decode cX7_readNumber 14 = .ok (.getfield 19, 3) := by decide +kernel
theorem dX7_readNumber_17 : decode cX7_readNumber 17 = .ok (.istore_n 3, 1) := by decide +kernel
theorem dX7_readNumber_18 : decode cX7_readNumber 18 = .ok (.iconst 0, 1) := by decide +kernel
theorem dX7_readNumber_19 : decode cX7_readNumber 19 = .ok (.istore 4, 2) := by decide +kernel
theorem dX7_readNumber_21 : decode cX7_readNumber 21 = .ok (.aload_n 0, 1) := by decide +kernel
theorem dX7_readNumber_22 : decode cX7_readNumber 22 = .ok (.getfield 19, 3) := by decide +kernel
theorem dX7_readNumber_25 : decode cX7_readNumber 25 = .ok (.aload_n 0, 1) := by decide +kernel
theorem dX7_readNumber_26 : decode cX7_readNumber 26 = .ok (.getfield 15, 3) := by decide +kernel
theorem dX7_readNumber_29 : decode cX7_readNumber 29 = .ok (.if_icmp .ge 56, 3) := by decide +kernel
theorem dX7_readNumber_32 : decode cX7_readNumber 32 = .ok (.aload_n 0, 1) := by decide +kernel
theorem dX7_readNumber_33 : decode cX7_readNumber 33 = .ok (.invokevirtual 40, 3) := by decide +kernel
theorem dX7_readNumber_36 : decode cX7_readNumber 36 = .ok (.invokestatic 89, 3) := by decide +kernel
theorem dX7_readNumber_39 : decode cX7_readNumber 39 = .ok (.ifCond .eq 46, 3) := by decide +kernel
theorem dX7_readNumber_42 : decode cX7_readNumber 42 = .ok (.aload_n 0, 1) := by decide +kernel
theorem dX7_readNumber_43 : decode cX7_readNumber 43 = .ok (.getfield 19, 3) := by decide +kernel
theorem dX7_readNumber_46 : decode cX7_readNumber 46 = .ok (.iload_n 3, 1) := by decide +kernel
theorem dX7_readNumber_47 : decode cX7_readNumber 47 = .ok (.isub, 1) := by decide +kernel
theorem dX7_readNumber_48 : decode cX7_readNumber 48 = .ok (.iconst 3, 1) := by decide +kernel
theorem dX7_readNumber_49 : decode cX7_readNumber 49 = .ok (.if_icmp .ge 19, 3) := by decide +kernel
theorem dX7_readNumber_52 : decode cX7_readNumber 52 = .ok (.iload 4, 2) := by decide +kernel
theorem dX7_readNumber_54 : decode cX7_readNumber 54 = .ok (.bipush 10, 2) := by decide +kernel
theorem dX7_readNumber_56 : decode cX7_readNumber 56 = .ok (.imul, 1) := by decide +kernel
theorem dX7_readNumber_57 : decode cX7_readNumber 57 = .ok (.aload_n 0, 1) := by decide +kernel
theorem dX7_readNumber_58 : decode cX7_readNumber 58 = .ok (.invokevirtual 40, 3) := by decide +kernel
theorem dX7_readNumber_61 : decode cX7_readNumber 61 = .ok (.iadd, 1) := by decide +kernel
theorem dX7_readNumber_62 : decode cX7_readNumber 62 = .ok (.bipush 48, 2) := by decide +kernel
theorem dX7_readNumber_64 : decode cX7_readNumber 64 = .ok (.isub, 1) := by decide +kernel
theorem dX7_readNumber_65 : decode cX7_readNumber 65 = .ok (.goto 5, 3) := by decide +kernel
theorem dX7_readNumber_68 : decode cX7_readNumber 68 = .ok (.iload 4, 2) := by decide +kernel
theorem dX7_readNumber_70 : decode cX7_readNumber 70 = .ok (.istore 4, 2) := by decide +kernel
theorem dX7_readNumber_72 : decode cX7_readNumber 72 = .ok (.aload_n 0, 1) := by decide +kernel
theorem dX7_readNumber_73 : decode cX7_readNumber 73 = .ok (.dup, 1) := by decide +kernel
theorem dX7_readNumber_74 : decode cX7_readNumber 74 = .ok (.getfield 19, 3) := by decide +kernel
theorem dX7_readNumber_77 : decode cX7_readNumber 77 = .ok (.iconst 1, 1) := by decide +kernel
theorem dX7_readNumber_78 : decode cX7_readNumber 78 = .ok (.iadd, 1) := by decide +kernel
theorem dX7_readNumber_79 : decode cX7_readNumber 79 = .ok (.putfield 19, 3) := by decide +kernel
theorem dX7_readNumber_82 : decode cX7_readNumber 82 = .ok (.goto (-61), 3) := by decide +kernel
theorem dX7_readNumber_85 : decode cX7_readNumber 85 = .ok (.aload_n 0, 1) := by decide +kernel
theorem dX7_readNumber_86 : decode cX7_readNumber 86 = .ok (.getfield 19, 3) := by decide +kernel
theorem dX7_readNumber_89 : decode cX7_readNumber 89 = .ok (.iload_n 3, 1) := by decide +kernel
theorem dX7_readNumber_90 : decode cX7_readNumber 90 = .ok (.if_icmp .ne 12, 3) := by decide +kernel
theorem dX7_readNumber_93 : decode cX7_readNumber 93 = .ok (.aload_n 0, 1) := by decide +kernel
theorem dX7_readNumber_94 : decode cX7_readNumber 94 = .ok (.iconst 1, 1) := by decide +kernel
theorem dX7_readNumber_95 : decode cX7_readNumber 95 = .ok (.iload_n 3, 1) := by decide +kernel
theorem dX7_readNumber_96 : decode cX7_readNumber 96 = .ok (.invokevirtual 48, 3) := by decide +kernel
theorem dX7_readNumber_99 : decode cX7_readNumber 99 = .ok (.goto 31, 3) := by decide +kernel
theorem dX7_readNumber_102 : decode cX7_readNumber 102 = .ok (.aload_n 0, 1) := by decide +kernel
theorem dX7_readNumber_103 : decode cX7_readNumber 103 = .ok (.getfield 19, 3) := by decide +kernel
theorem dX7_readNumber_106 : decode cX7_readNumber 106 = .ok (.iload_n 3, 1) := by decide +kernel
theorem dX7_readNumber_107 : decode cX7_readNumber 107 = .ok (.isub, 1) := by decide +kernel
theorem dX7_readNumber_108 : decode cX7_readNumber 108 = .ok (.iconst 3, 1) := by decide +kernel
theorem dX7_readNumber_109 : decode cX7_readNumber 109 = .ok (.if_icmp .gt 15, 3) := by decide +kernel
theorem dX7_readNumber_112 : decode cX7_readNumber 112 = .ok (.iload 4, 2) := by decide +kernel
theorem dX7_readNumber_114 : decode cX7_readNumber 114 = .ok (.iload_n 1, 1) := by decide +kernel
theorem dX7_readNumber_115 : decode cX7_readNumber 115 = .ok (.if_icmp .lt 9, 3) := by decide +kernel
theorem dX7_readNumber_118 : decode cX7_readNumber 118 = .ok (.iload 4, 2) := by decide +kernel
theorem dX7_readNumber_120 : decode cX7_readNumber 120 = .ok (.iload_n 2, 1) := by decide +kernel
theorem dX7_readNumber_121 : decode cX7_readNumber 121 = .ok (.if_icmp .le 9, 3) := by decide +kernel
theorem dX7_readNumber_124 : decode cX7_readNumber 124 = .ok (.aload_n 0, 1) := by decide +kernel
theorem dX7_readNumber_125 : decode cX7_readNumber 125 = .ok (.iconst 2, 1) := by decide +kernel
theorem dX7_readNumber_126 : decode cX7_readNumber 126 = .ok (.iload_n 3, 1) := by decide +kernel
theorem dX7_readNumber_127 : decode cX7_readNumber 127 = .ok (.invokevirtual 48, 3) := by decide +kernel
theorem dX7_readNumber_130 : decode cX7_readNumber 130 = .ok (.aload_n 0, 1) := by decide +kernel
theorem dX7_readNumber_131 : decode cX7_readNumber 131 = .ok (.getfield 22, 3) := by decide +kernel
theorem dX7_readNumber_134 : decode cX7_readNumber 134 = .ok (.ifCond .eq 7, 3) := by decide +kernel
theorem dX7_readNumber_137 : decode cX7_readNumber 137 = .ok (.iload_n 1, 1) := by decide +kernel
theorem dX7_readNumber_138 : decode cX7_readNumber 138 = .ok (.goto 5, 3) := by decide +kernel
theorem dX7_readNumber_141 : decode cX7_readNumber 141 = .ok (.iload 4, 2) := by decide +kernel
theorem dX7_readNumber_143 : decode cX7_readNumber 143 = .ok (.ireturn, 1) := by decide +kernel
theorem dX7_readEnd_0 : decode cX7_readEnd 0 = .ok (.aload_n 0, 1) := by decide +kernel
theorem dX7_readEnd_1 : decode cX7_readEnd 1 = .ok (.getfield 22, 3) := by decide +kernel
theorem dX7_readEnd_4 : decode cX7_readEnd 4 = .ok (.ifCond .eq 4, 3) := by decide +kernel
theorem dX7_readEnd_7 : decode cX7_readEnd 7 = .ok (.return_, 1) := by decide +kernel
theorem dX7_readEnd_8 : decode cX7_readEnd 8 = .ok (.aload_n 0, 1) := by decide +kernel
theorem dX7_readEnd_9 : decode cX7_readEnd 9 = .ok (.invokevirtual 33, 3) := by decide +kernel
theorem dX7_readEnd_12 : decode cX7_readEnd 12 = .ok (.aload_n 0, 1) := by decide +kernel
theorem dX7_readEnd_13 : decode cX7_readEnd 13 = .ok (.invokevirtual 40, 3) := by decide +kernel
theorem dX7_readEnd_16 : decode cX7_readEnd 16 = .ok (.bipush 59, 2) := by decide +kernel
theorem dX7_readEnd_18 : decode cX7_readEnd 18 = .ok (.if_icmp .ne 16, 3) := by decide +kernel
theorem dX7_readEnd_21 : decode cX7_readEnd 21 = .ok (.aload_n 0, 1) := by decide +kernel
theorem dX7_readEnd_22 : decode cX7_readEnd 22 = .ok (.dup, 1) := by decide +kernel
theorem dX7_readEnd_23 : decode cX7_readEnd 23 = .ok (.getfield 19, 3) := by decide +kernel
theorem dX7_readEnd_26 : decode cX7_readEnd 26 = .ok (.iconst 1, 1) := by decide +kernel
theorem dX7_readEnd_27 : decode cX7_readEnd 27 = .ok (.iadd, 1) := by decide +kernel
theorem dX7_readEnd_28 : decode cX7_readEnd 28 = .ok (.putfield 19, 3) := by decide +kernel
theorem dX7_readEnd_31 : decode cX7_readEnd 31 = .ok (.goto 12, 3) := by decide +kernel
theorem dX7_readEnd_34 : decode cX7_readEnd 34 = .ok (.aload_n 0, 1) := by decide +kernel
theorem dX7_readEnd_35 : decode cX7_readEnd 35 = .ok (.iconst 1, 1) := by decide +kernel
theorem dX7_readEnd_36 : decode cX7_readEnd 36 = .ok (.aload_n 0, 1) := by decide +kernel
theorem dX7_readEnd_37 : decode cX7_readEnd 37 = .ok (.getfield 19, 3) := by decide +kernel
theorem dX7_readEnd_40 : decode cX7_readEnd 40 = .ok (.invokevirtual 48, 3) := by decide +kernel
theorem dX7_readEnd_43 : decode cX7_readEnd 43 = .ok (.return_, 1) := by decide +kernel
theorem dX7_skipBlanks_0 : decode cX7_skipBlanks 0 = .ok (.aload_n 0, 1) := by decide +kernel
theorem dX7_skipBlanks_1 : decode cX7_skipBlanks 1 = .ok (.getfield 19, 3) := by decide +kernel
theorem dX7_skipBlanks_4 : decode cX7_skipBlanks 4 = .ok (.aload_n 0, 1) := by decide +kernel
theorem dX7_skipBlanks_5 : decode cX7_skipBlanks 5 = .ok (.getfield 15, 3) := by decide +kernel
theorem dX7_skipBlanks_8 : decode cX7_skipBlanks 8 = .ok (.if_icmp .ge 25, 3) := by decide +kernel
theorem dX7_skipBlanks_11 : decode cX7_skipBlanks 11 = .ok (.aload_n 0, 1) := by decide +kernel
theorem dX7_skipBlanks_12 : decode cX7_skipBlanks 12 = .ok (.invokevirtual 40, 3) := by decide +kernel
theorem dX7_skipBlanks_15 : decode cX7_skipBlanks 15 = .ok (.bipush 32, 2) := by decide +kernel
theorem dX7_skipBlanks_17 : decode cX7_skipBlanks 17 = .ok (.if_icmp .ne 16, 3) := by decide +kernel
theorem dX7_skipBlanks_20 : decode cX7_skipBlanks 20 = .ok (.aload_n 0, 1) := by decide +kernel
theorem dX7_skipBlanks_21 : decode cX7_skipBlanks 21 = .ok (.dup, 1) := by decide +kernel
theorem dX7_skipBlanks_22 : decode cX7_skipBlanks 22 = .ok (.getfield 19, 3) := by decide +kernel
theorem dX7_skipBlanks_25 : decode cX7_skipBlanks 25 = .ok (.iconst 1, 1) := by decide +kernel
theorem dX7_skipBlanks_26 : decode cX7_skipBlanks 26 = .ok (.iadd, 1) := by decide +kernel
theorem dX7_skipBlanks_27 : decode cX7_skipBlanks 27 = .ok (.putfield 19, 3) := by decide +kernel
theorem dX7_skipBlanks_30 : decode cX7_skipBlanks 30 = .ok (.goto (-30), 3) := by decide +kernel
theorem dX7_skipBlanks_33 : decode cX7_skipBlanks 33 = .ok (.return_, 1) := by decide +kernel
theorem dX7_letterHere_0 : decode cX7_letterHere 0 = .ok (.aload_n 0, 1) := by decide +kernel
theorem dX7_letterHere_1 : decode cX7_letterHere 1 = .ok (.getfield 19, 3) := by decide +kernel
theorem dX7_letterHere_4 : decode cX7_letterHere 4 = .ok (.ifCond .lt 36, 3) := by decide +kernel
theorem dX7_letterHere_7 : decode cX7_letterHere 7 = .ok (.aload_n 0, 1) := by decide +kernel
theorem dX7_letterHere_8 : decode cX7_letterHere 8 = .ok (.getfield 19, 3) := by decide +kernel
theorem dX7_letterHere_11 : decode cX7_letterHere 11 = .ok (.aload_n 0, 1) := by decide +kernel
theorem dX7_letterHere_12 : decode cX7_letterHere 12 = .ok (.getfield 15, 3) := by decide +kernel
theorem dX7_letterHere_15 : decode cX7_letterHere 15 = .ok (.if_icmp .ge 25, 3) := by decide +kernel
theorem dX7_letterHere_18 : decode cX7_letterHere 18 = .ok (.aload_n 0, 1) := by decide +kernel
theorem dX7_letterHere_19 : decode cX7_letterHere 19 = .ok (.getfield 19, 3) := by decide +kernel
theorem dX7_letterHere_22 : decode cX7_letterHere 22 = .ok (.sipush 240, 3) := by decide +kernel
theorem dX7_letterHere_25 : decode cX7_letterHere 25 = .ok (.if_icmp .ge 15, 3) := by decide +kernel
theorem dX7_letterHere_28 : decode cX7_letterHere 28 = .ok (.aload_n 0, 1) := by decide +kernel
theorem dX7_letterHere_29 : decode cX7_letterHere 29 = .ok (.getfield 9, 3) := by decide +kernel
theorem dX7_letterHere_32 : decode cX7_letterHere 32 = .ok (.aload_n 0, 1) := by decide +kernel
theorem dX7_letterHere_33 : decode cX7_letterHere 33 = .ok (.getfield 19, 3) := by decide +kernel
theorem dX7_letterHere_36 : decode cX7_letterHere 36 = .ok (.iaload, 1) := by decide +kernel
theorem dX7_letterHere_37 : decode cX7_letterHere 37 = .ok (.goto 4, 3) := by decide +kernel
theorem dX7_letterHere_40 : decode cX7_letterHere 40 = .ok (.iconst (-1), 1) := by decide +kernel
theorem dX7_letterHere_41 : decode cX7_letterHere 41 = .ok (.ireturn, 1) := by decide +kernel
theorem dX7_isFigure_0 : decode cX7_isFigure 0 = .ok (.iload_n 0, 1) := by decide +kernel
theorem dX7_isFigure_1 : decode cX7_isFigure 1 = .ok (.bipush 48, 2) := by decide +kernel
theorem dX7_isFigure_3 : decode cX7_isFigure 3 = .ok (.if_icmp .lt 13, 3) := by decide +kernel
theorem dX7_isFigure_6 : decode cX7_isFigure 6 = .ok (.iload_n 0, 1) := by decide +kernel
theorem dX7_isFigure_7 : decode cX7_isFigure 7 = .ok (.bipush 57, 2) := by decide +kernel
theorem dX7_isFigure_9 : decode cX7_isFigure 9 = .ok (.if_icmp .gt 7, 3) := by decide +kernel
theorem dX7_isFigure_12 : decode cX7_isFigure 12 = .ok (.iconst 1, 1) := by decide +kernel
theorem dX7_isFigure_13 : decode cX7_isFigure 13 = .ok (.goto 4, 3) := by decide +kernel
theorem dX7_isFigure_16 : decode cX7_isFigure 16 = .ok (.iconst 0, 1) := by decide +kernel
theorem dX7_isFigure_17 : decode cX7_isFigure 17 = .ok (.ireturn, 1) := by decide +kernel
theorem dX7_fail_0 : decode cX7_fail 0 = .ok (.aload_n 0, 1) := by decide +kernel
theorem dX7_fail_1 : decode cX7_fail 1 = .ok (.iload_n 1, 1) := by decide +kernel
theorem dX7_fail_2 : decode cX7_fail 2 = .ok (.putfield 22, 3) := by decide +kernel
theorem dX7_fail_5 : decode cX7_fail 5 = .ok (.aload_n 0, 1) := by decide +kernel
theorem dX7_fail_6 : decode cX7_fail 6 = .ok (.iload_n 2, 1) := by decide +kernel
theorem dX7_fail_7 : decode cX7_fail 7 = .ok (.putfield 25, 3) := by decide +kernel
theorem dX7_fail_10 : decode cX7_fail 10 = .ok (.return_, 1) := by decide +kernel
theorem dX8_init_0 : decode cX8_init 0 = .ok (.aload_n 0, 1) := by decide +kernel
theorem dX8_init_1 : decode cX8_init 1 = .ok (.invokespecial 3, 3) := by decide +kernel
theorem dX8_init_4 : decode cX8_init 4 = .ok (.aload_n 0, 1) := by decide +kernel
theorem dX8_init_5 : decode cX8_init 5 = .ok (.bipush 7, 2) := by decide +kernel
theorem dX8_init_7 : decode cX8_init 7 = .ok (.newarray .int, 2) := by decide +kernel
theorem dX8_init_9 : decode cX8_init 9 = .ok (.putfield 9, 3) := by decide +kernel
theorem dX8_init_12 : decode cX8_init 12 = .ok (.aload_n 0, 1) := by decide +kernel
theorem dX8_init_13 : decode cX8_init 13 = .ok (.bipush 7, 2) := by decide +kernel
theorem dX8_init_15 : decode cX8_init 15 = .ok (.newarray .int, 2) := by decide +kernel
theorem dX8_init_17 : decode cX8_init 17 = .ok (.putfield 15, 3) := by decide +kernel
theorem dX8_init_20 : decode cX8_init 20 = .ok (.aload_n 0, 1) := by decide +kernel
theorem dX8_init_21 : decode cX8_init 21 = .ok (.bipush 7, 2) := by decide +kernel
theorem dX8_init_23 : decode cX8_init 23 = .ok (.newarray .int, 2) := by decide +kernel
theorem dX8_init_25 : decode cX8_init 25 = .ok (.putfield 18, 3) := by decide +kernel
theorem dX8_init_28 : decode cX8_init 28 = .ok (.aload_n 0, 1) := by decide +kernel
theorem dX8_init_29 : decode cX8_init 29 = .ok (.bipush 7, 2) := by decide +kernel
theorem dX8_init_31 : decode cX8_init 31 = .ok (.newarray .int, 2) := by decide +kernel
theorem dX8_init_33 : decode cX8_init 33 = .ok (.putfield 21, 3) := by decide +kernel
theorem dX8_init_36 : decode cX8_init 36 = .ok (.aload_n 0, 1) := by decide +kernel
theorem dX8_init_37 : decode cX8_init 37 = .ok (.iconst 4, 1) := by decide +kernel
theorem dX8_init_38 : decode cX8_init 38 = .ok (.newarray .int, 2) := by decide +kernel
theorem dX8_init_40 : decode cX8_init 40 = .ok (.putfield 24, 3) := by decide +kernel
theorem dX8_init_43 : decode cX8_init 43 = .ok (.return_, 1) := by decide +kernel
theorem dX8_clear_0 : decode cX8_clear 0 = .ok (.aload_n 0, 1) := by decide +kernel
theorem dX8_clear_1 : decode cX8_clear 1 = .ok (.iconst 0, 1) := by decide +kernel
theorem dX8_clear_2 : decode cX8_clear 2 = .ok (.putfield 27, 3) := by decide +kernel
theorem dX8_clear_5 : decode cX8_clear 5 = .ok (.aload_n 0, 1) := by decide +kernel
theorem dX8_clear_6 : decode cX8_clear 6 = .ok (.iconst 0, 1) := by decide +kernel
theorem dX8_clear_7 : decode cX8_clear 7 = .ok (.putfield 31, 3) := by decide +kernel
theorem dX8_clear_10 : decode cX8_clear 10 = .ok (.aload_n 0, 1) := by decide +kernel
theorem dX8_clear_11 : decode cX8_clear 11 = .ok (.iconst 0, 1) := by decide +kernel
theorem dX8_clear_12 : decode cX8_clear 12 = .ok (.putfield 34, 3) := by decide +kernel
theorem dX8_clear_15 : decode cX8_clear 15 = .ok (.aload_n 0, 1) := by decide +kernel
theorem dX8_clear_16 : decode cX8_clear 16 = .ok (.iconst 0, 1) := by decide +kernel
theorem dX8_clear_17 : decode cX8_clear 17 = .ok (.putfield 37, 3) := by decide +kernel
theorem dX8_clear_20 : decode cX8_clear 20 = .ok (.aload_n 0, 1) := by decide +kernel
theorem dX8_clear_21 : decode cX8_clear 21 = .ok (.iconst 0, 1) := by decide +kernel
theorem dX8_clear_22 : decode cX8_clear 22 = .ok (.putfield 40, 3) := by decide +kernel
theorem dX8_clear_25 : decode cX8_clear 25 = .ok (.return_, 1) := by decide +kernel
theorem dX8_takeFrom_0 : decode cX8_takeFrom 0 = .ok (.aload_n 0, 1) := by decide +kernel
theorem dX8_takeFrom_1 : decode cX8_takeFrom 1 = .ok (.aload_n 1, 1) := by decide +kernel
theorem dX8_takeFrom_2 : decode cX8_takeFrom 2 = .ok (.getfield 27, 3) := by decide +kernel
theorem dX8_takeFrom_5 : decode cX8_takeFrom 5 = .ok (.putfield 27, 3) := by decide +kernel
theorem dX8_takeFrom_8 : decode cX8_takeFrom 8 = .ok (.aload_n 0, 1) := by decide +kernel
theorem dX8_takeFrom_9 : decode cX8_takeFrom 9 = .ok (.aload_n 1, 1) := by decide +kernel
theorem dX8_takeFrom_10 : decode cX8_takeFrom 10 = .ok (.getfield 31, 3) := by decide +kernel
theorem dX8_takeFrom_13 : decode cX8_takeFrom 13 = .ok (.putfield 31, 3) := by decide +kernel
theorem dX8_takeFrom_16 : decode cX8_takeFrom 16 = .ok (.aload_n 0, 1) := by decide +kernel
theorem dX8_takeFrom_17 : decode cX8_takeFrom 17 = .ok (.aload_n 1, 1) := by decide +kernel
theorem dX8_takeFrom_18 : decode cX8_takeFrom 18 = .ok (.getfield 34, 3) := by decide +kernel
theorem dX8_takeFrom_21 : decode cX8_takeFrom 21 = .ok (.putfield 34, 3) := by decide +kernel
theorem dX8_takeFrom_24 : decode cX8_takeFrom 24 = .ok (.aload_n 0, 1) := by decide +kernel
theorem dX8_takeFrom_25 : decode cX8_takeFrom 25 = .ok (.aload_n 1, 1) := by decide +kernel
theorem dX8_takeFrom_26 : decode cX8_takeFrom 26 = .ok (.getfield 37, 3) := by decide +kernel
theorem dX8_takeFrom_29 : decode cX8_takeFrom 29 = .ok (.putfield 37, 3) := by decide +kernel
theorem dX8_takeFrom_32 : decode cX8_takeFrom 32 = .ok (.aload_n 0, 1) := by decide +kernel
theorem dX8_takeFrom_33 : decode cX8_takeFrom 33 = .ok (.aload_n 1, 1) := by decide +kernel
theorem dX8_takeFrom_34 : decode cX8_takeFrom 34 = .ok (.getfield 40, 3) := by decide +kernel
theorem dX8_takeFrom_37 : decode cX8_takeFrom 37 = .ok (.putfield 40, 3) := by decide +kernel
theorem dX8_takeFrom_40 : decode cX8_takeFrom 40 = .ok (.aload_n 1, 1) := by decide +kernel
theorem dX8_takeFrom_41 : decode cX8_takeFrom 41 = .ok (.getfield 9, 3) := by decide +kernel
theorem dX8_takeFrom_44 : decode cX8_takeFrom 44 = .ok (.iconst 0, 1) := by decide +kernel
theorem dX8_takeFrom_45 : decode cX8_takeFrom 45 = .ok (.aload_n 0, 1) := by decide +kernel
theorem dX8_takeFrom_46 : decode cX8_takeFrom 46 = .ok (.getfield 9, 3) := by decide +kernel
theorem dX8_takeFrom_49 : decode cX8_takeFrom 49 = .ok (.iconst 0, 1) := by decide +kernel
theorem dX8_takeFrom_50 : decode cX8_takeFrom 50 = .ok (.bipush 7, 2) := by decide +kernel
theorem dX8_takeFrom_52 : decode cX8_takeFrom 52 = .ok (.invokestatic 43, 3) := by decide +kernel
theorem dX8_takeFrom_55 : decode cX8_takeFrom 55 = .ok (.aload_n 1, 1) := by decide +kernel
theorem dX8_takeFrom_56 : decode cX8_takeFrom 56 = .ok (.getfield 15, 3) := by decide +kernel
theorem dX8_takeFrom_59 : decode cX8_takeFrom 59 = .ok (.iconst 0, 1) := by decide +kernel
theorem dX8_takeFrom_60 : decode cX8_takeFrom 60 = .ok (.aload_n 0, 1) := by decide +kernel
theorem dX8_takeFrom_61 : decode cX8_takeFrom 61 = .ok (.getfield 15, 3) := by decide +kernel
theorem dX8_takeFrom_64 : decode cX8_takeFrom 64 = .ok (.iconst 0, 1) := by decide +kernel
theorem dX8_takeFrom_65 : decode cX8_takeFrom 65 = .ok (.bipush 7, 2) := by decide +kernel
theorem dX8_takeFrom_67 : decode cX8_takeFrom 67 = .ok (.invokestatic 43, 3) := by decide +kernel
theorem dX8_takeFrom_70 : decode cX8_takeFrom 70 = .ok (.aload_n 1, 1) := by decide +kernel
theorem dX8_takeFrom_71 : decode cX8_takeFrom 71 = .ok (.getfield 18, 3) := by decide +kernel
theorem dX8_takeFrom_74 : decode cX8_takeFrom 74 = .ok (.iconst 0, 1) := by decide +kernel
theorem dX8_takeFrom_75 : decode cX8_takeFrom 75 = .ok (.aload_n 0, 1) := by decide +kernel
theorem dX8_takeFrom_76 : decode cX8_takeFrom 76 = .ok (.getfield 18, 3) := by decide +kernel
theorem dX8_takeFrom_79 : decode cX8_takeFrom 79 = .ok (.iconst 0, 1) := by decide +kernel
theorem dX8_takeFrom_80 : decode cX8_takeFrom 80 = .ok (.bipush 7, 2) := by decide +kernel
theorem dX8_takeFrom_82 : decode cX8_takeFrom 82 = .ok (.invokestatic 43, 3) := by decide +kernel
theorem dX8_takeFrom_85 : decode cX8_takeFrom 85 = .ok (.aload_n 1, 1) := by decide +kernel
theorem dX8_takeFrom_86 : decode cX8_takeFrom 86 = .ok (.getfield 21, 3) := by decide +kernel
theorem dX8_takeFrom_89 : decode cX8_takeFrom 89 = .ok (.iconst 0, 1) := by decide +kernel
theorem dX8_takeFrom_90 : decode cX8_takeFrom 90 = .ok (.aload_n 0, 1) := by decide +kernel
theorem dX8_takeFrom_91 : decode cX8_takeFrom 91 = .ok (.getfield 21, 3) := by decide +kernel
theorem dX8_takeFrom_94 : decode cX8_takeFrom 94 = .ok (.iconst 0, 1) := by decide +kernel
theorem dX8_takeFrom_95 : decode cX8_takeFrom 95 = .ok (.bipush 7, 2) := by decide +kernel
theorem dX8_takeFrom_97 : decode cX8_takeFrom 97 = .ok (.invokestatic 43, 3) := by decide +kernel
theorem dX8_takeFrom_100 : decode cX8_takeFrom 100 = .ok (.aload_n 1, 1) := by decide +kernel
theorem dX8_takeFrom_101 : decode cX8_takeFrom 101 = .ok (.getfield 24, 3) := by decide +kernel
theorem dX8_takeFrom_104 : decode cX8_takeFrom 104 = .ok (.iconst 0, 1) := by decide +kernel
theorem dX8_takeFrom_105 : decode cX8_takeFrom 105 = .ok (.aload_n 0, 1) := by decide +kernel
theorem dX8_takeFrom_106 : decode cX8_takeFrom 106 = .ok (.getfield 24, 3) := by decide +kernel
theorem dX8_takeFrom_109 : decode cX8_takeFrom 109 = .ok (.iconst 0, 1) := by decide +kernel
theorem dX8_takeFrom_110 : decode cX8_takeFrom 110 = .ok (.iconst 4, 1) := by decide +kernel
theorem dX8_takeFrom_111 : decode cX8_takeFrom 111 = .ok (.invokestatic 43, 3) := by decide +kernel
theorem dX8_takeFrom_114 : decode cX8_takeFrom 114 = .ok (.return_, 1) := by decide +kernel
theorem dX8_isEmpty_0 : decode cX8_isEmpty 0 = .ok (.aload_n 0, 1) := by decide +kernel
theorem dX8_isEmpty_1 : decode cX8_isEmpty 1 = .ok (.getfield 31, 3) := by decide +kernel
theorem dX8_isEmpty_4 : decode cX8_isEmpty 4 = .ok (.ifCond .ne 7, 3) := by decide +kernel
theorem dX8_isEmpty_7 : decode cX8_isEmpty 7 = .ok (.iconst 1, 1) := by decide +kernel
theorem dX8_isEmpty_8 : decode cX8_isEmpty 8 = .ok (.goto 4, 3) := by decide +kernel
theorem dX8_isEmpty_11 : decode cX8_isEmpty 11 = .ok (.iconst 0, 1) := by decide +kernel
theorem dX8_isEmpty_12 : decode cX8_isEmpty 12 = .ok (.ireturn, 1) := by decide +kernel
theorem dX8_hasSinger_0 : decode cX8_hasSinger 0 = .ok (.iload_n 1, 1) := by decide +kernel
theorem dX8_hasSinger_1 : decode cX8_hasSinger 1 = .ok (.ifCond .lt 15, 3) := by decide +kernel
theorem dX8_hasSinger_4 : decode cX8_hasSinger 4 = .ok (.iload_n 1, 1) := by decide +kernel
theorem dX8_hasSinger_5 : decode cX8_hasSinger 5 = .ok (.aload_n 0, 1) := by decide +kernel
theorem dX8_hasSinger_6 : decode cX8_hasSinger 6 = .ok (.getfield 37, 3) := by decide +kernel
theorem dX8_hasSinger_9 : decode cX8_hasSinger 9 = .ok (.if_icmp .ge 7, 3) := by decide +kernel
theorem dX8_hasSinger_12 : decode cX8_hasSinger 12 = .ok (.iconst 1, 1) := by decide +kernel
theorem dX8_hasSinger_13 : decode cX8_hasSinger 13 = .ok (.goto 4, 3) := by decide +kernel
theorem dX8_hasSinger_16 : decode cX8_hasSinger 16 = .ok (.iconst 0, 1) := by decide +kernel
theorem dX8_hasSinger_17 : decode cX8_hasSinger 17 = .ok (.ireturn, 1) := by decide +kernel
theorem dX8_hasPlace_0 : decode cX8_hasPlace 0 = .ok (.iload_n 1, 1) := by decide +kernel
theorem dX8_hasPlace_1 : decode cX8_hasPlace 1 = .ok (.ifCond .lt 15, 3) := by decide +kernel
theorem dX8_hasPlace_4 : decode cX8_hasPlace 4 = .ok (.iload_n 1, 1) := by decide +kernel
theorem dX8_hasPlace_5 : decode cX8_hasPlace 5 = .ok (.aload_n 0, 1) := by decide +kernel
theorem dX8_hasPlace_6 : decode cX8_hasPlace 6 = .ok (.getfield 31, 3) := by decide +kernel
theorem dX8_hasPlace_9 : decode cX8_hasPlace 9 = .ok (.if_icmp .ge 7, 3) := by decide +kernel
theorem dX8_hasPlace_12 : decode cX8_hasPlace 12 = .ok (.iconst 1, 1) := by decide +kernel
theorem dX8_hasPlace_13 : decode cX8_hasPlace 13 = .ok (.goto 4, 3) := by decide +kernel
theorem dX8_hasPlace_16 : decode cX8_hasPlace 16 = .ok (.iconst 0, 1) := by decide +kernel
theorem dX8_hasPlace_17 : decode cX8_hasPlace 17 = .ok (.ireturn, 1) := by decide +kernel
theorem dX8_hasInspector_0 : decode cX8_hasInspector 0 = .ok (.iload_n 1, 1) := by decide +kernel
theorem dX8_hasInspector_1 : decode cX8_hasInspector 1 = .ok (.ifCond .lt 15, 3) := by decide +kernel
theorem dX8_hasInspector_4 : decode cX8_hasInspector 4 = .ok (.iload_n 1, 1) := by decide +kernel
theorem dX8_hasInspector_5 : decode cX8_hasInspector 5 = .ok (.aload_n 0, 1) := by decide +kernel
theorem dX8_hasInspector_6 : decode cX8_hasInspector 6 = .ok (.getfield 40, 3) := by decide +kernel
theorem dX8_hasInspector_9 : decode cX8_hasInspector 9 = .ok (.if_icmp .ge 7, 3) := by decide +kernel
theorem dX8_hasInspector_12 : decode cX8_hasInspector 12 = .ok (.iconst 1, 1) := by decide +kernel
theorem dX8_hasInspector_13 : decode cX8_hasInspector 13 = .ok (.goto 4, 3) := by decide +kernel
theorem dX8_hasInspector_16 : decode cX8_hasInspector 16 = .ok (.iconst 0, 1) := by decide +kernel
theorem dX8_hasInspector_17 : decode cX8_hasInspector 17 = .ok (.ireturn, 1) := by decide +kernel
theorem dX8_hasWord_0 : decode cX8_hasWord 0 = .ok (.iload_n 1, 1) := by decide +kernel
theorem dX8_hasWord_1 : decode cX8_hasWord 1 = .ok (.ifCond .lt 15, 3) := by decide +kernel
theorem dX8_hasWord_4 : decode cX8_hasWord 4 = .ok (.iload_n 1, 1) := by decide +kernel
theorem dX8_hasWord_5 : decode cX8_hasWord 5 = .ok (.aload_n 0, 1) := by decide +kernel
theorem dX8_hasWord_6 : decode cX8_hasWord 6 = .ok (.getfield 34, 3) := by decide +kernel
theorem dX8_hasWord_9 : decode cX8_hasWord 9 = .ok (.if_icmp .ge 7, 3) := by decide +kernel
theorem dX8_hasWord_12 : decode cX8_hasWord 12 = .ok (.iconst 1, 1) := by decide +kernel
theorem dX8_hasWord_13 : decode cX8_hasWord 13 = .ok (.goto 4, 3) := by decide +kernel
theorem dX8_hasWord_16 : decode cX8_hasWord 16 = .ok (.iconst 0, 1) := by decide +kernel
theorem dX8_hasWord_17 : decode cX8_hasWord 17 = .ok (.ireturn, 1) := by decide +kernel
theorem dX8_hasAll_0 : decode cX8_hasAll 0 = .ok (.iload_n 1, 1) := by decide +kernel
theorem dX8_hasAll_1 : decode cX8_hasAll 1 = .ok (.aload_n 0, 1) := by decide +kernel
theorem dX8_hasAll_2 : decode cX8_hasAll 2 = .ok (.invokevirtual 49, 3) := by decide +kernel
theorem dX8_hasAll_5 : decode cX8_hasAll 5 = .ok (.iconst (-1), 1) := by decide +kernel
theorem dX8_hasAll_6 : decode cX8_hasAll 6 = .ok (.ixor, 1) := by decide +kernel
theorem dX8_hasAll_7 : decode cX8_hasAll 7 = .ok (.iand, 1) := by decide +kernel
theorem dX8_hasAll_8 : decode cX8_hasAll 8 = .ok (.ifCond .ne 7, 3) := by decide +kernel
theorem dX8_hasAll_11 : decode cX8_hasAll 11 = .ok (.iconst 1, 1) := by decide +kernel
theorem dX8_hasAll_12 : decode cX8_hasAll 12 = .ok (.goto 4, 3) := by decide +kernel
theorem dX8_hasAll_15 : decode cX8_hasAll 15 = .ok (.iconst 0, 1) := by decide +kernel
theorem dX8_hasAll_16 : decode cX8_hasAll 16 = .ok (.ireturn, 1) := by decide +kernel
theorem dX8_everyone_0 : decode cX8_everyone 0 = .ok (.iconst 1, 1) := by decide +kernel
theorem dX8_everyone_1 : decode cX8_everyone 1 = .ok (.aload_n 0, 1) := by decide +kernel
theorem dX8_everyone_2 : decode cX8_everyone 2 = .ok (.getfield 37, 3) := by decide +kernel
theorem dX8_everyone_5 : decode cX8_everyone 5 = .ok (.ishl, 1) := by decide +kernel
theorem dX8_everyone_6 : decode cX8_everyone 6 = .ok (.iconst 1, 1) := by decide +kernel
theorem dX8_everyone_7 : decode cX8_everyone 7 = .ok (.isub, 1) := by decide +kernel
theorem dX8_everyone_8 : decode cX8_everyone 8 = .ok (.ireturn, 1) := by decide +kernel
theorem dX8_everyWord_0 : decode cX8_everyWord 0 = .ok (.iconst 1, 1) := by decide +kernel
theorem dX8_everyWord_1 : decode cX8_everyWord 1 = .ok (.aload_n 0, 1) := by decide +kernel
theorem dX8_everyWord_2 : decode cX8_everyWord 2 = .ok (.getfield 34, 3) := by decide +kernel
theorem dX8_everyWord_5 : decode cX8_everyWord 5 = .ok (.ishl, 1) := by decide +kernel
theorem dX8_everyWord_6 : decode cX8_everyWord 6 = .ok (.iconst 1, 1) := by decide +kernel
theorem dX8_everyWord_7 : decode cX8_everyWord 7 = .ok (.isub, 1) := by decide +kernel
theorem dX8_everyWord_8 : decode cX8_everyWord 8 = .ok (.ireturn, 1) := by decide +kernel
theorem dX8_knownBy_0 : decode cX8_knownBy 0 = .ok (.iconst 0, 1) := by decide +kernel
theorem dX8_knownBy_1 : decode cX8_knownBy 1 = .ok (.istore_n 2, 1) := by decide +kernel
theorem dX8_knownBy_2 : decode cX8_knownBy 2 = .ok (.iconst 0, 1) := by decide +kernel
theorem dX8_knownBy_3 : decode cX8_knownBy 3 = .ok (.istore_n 3, 1) := by decide +kernel
theorem dX8_knownBy_4 : decode cX8_knownBy 4 = .ok (.iload_n 3, 1) := by decide +kernel
theorem dX8_knownBy_5 : decode cX8_knownBy 5 = .ok (.aload_n 0, 1) := by decide +kernel
theorem dX8_knownBy_6 : decode cX8_knownBy 6 = .ok (.getfield 37, 3) := by decide +kernel
theorem dX8_knownBy_9 : decode cX8_knownBy 9 = .ok (.if_icmp .ge 26, 3) := by decide +kernel
theorem dX8_knownBy_12 : decode cX8_knownBy 12 = .ok (.iload_n 3, 1) := by decide +kernel
theorem dX8_knownBy_13 : decode cX8_knownBy 13 = .ok (.iload_n 1, 1) := by decide +kernel
theorem dX8_knownBy_14 : decode cX8_knownBy 14 = .ok (.invokestatic 53, 3) := by decide +kernel
theorem dX8_knownBy_17 : decode cX8_knownBy 17 = .ok (.ifCond .eq 12, 3) := by decide +kernel
theorem dX8_knownBy_20 : decode cX8_knownBy 20 = .ok (.iload_n 2, 1) := by decide +kernel
theorem dX8_knownBy_21 : decode cX8_knownBy 21 = .ok (.aload_n 0, 1) := by decide +kernel
theorem dX8_knownBy_22 : decode cX8_knownBy 22 = .ok (.getfield 21, 3) := by decide +kernel
theorem dX8_knownBy_25 : decode cX8_knownBy 25 = .ok (.iload_n 3, 1) := by decide +kernel
theorem dX8_knownBy_26 : decode cX8_knownBy 26 = .ok (.iaload, 1) := by decide +kernel
theorem dX8_knownBy_27 : decode cX8_knownBy 27 = .ok (.ior, 1) := by decide +kernel
theorem dX8_knownBy_28 : decode cX8_knownBy 28 = .ok (.istore_n 2, 1) := by decide +kernel
theorem dX8_knownBy_29 : decode cX8_knownBy 29 = .ok (.iinc 3 1, 3) := by decide +kernel
theorem dX8_knownBy_32 : decode cX8_knownBy 32 = .ok (.goto (-28), 3) := by decide +kernel
theorem dX8_knownBy_35 : decode cX8_knownBy 35 = .ok (.iload_n 2, 1) := by decide +kernel
theorem dX8_knownBy_36 : decode cX8_knownBy 36 = .ok (.ireturn, 1) := by decide +kernel
theorem dX8_addSinger_0 : decode cX8_addSinger 0 = .ok (.aload_n 0, 1) := by decide +kernel
theorem dX8_addSinger_1 : decode cX8_addSinger 1 = .ok (.getfield 37, 3) := by decide +kernel
theorem dX8_addSinger_4 : decode cX8_addSinger 4 = .ok (.bipush 7, 2) := by decide +kernel
theorem dX8_addSinger_6 : decode cX8_addSinger 6 = .ok (.if_icmp .ge 54, 3) := by decide +kernel
theorem dX8_addSinger_9 : decode cX8_addSinger 9 = .ok (.aload_n 0, 1) := by decide +kernel
theorem dX8_addSinger_10 : decode cX8_addSinger 10 = .ok (.getfield 9, 3) := by decide +kernel
theorem dX8_addSinger_13 : decode cX8_addSinger 13 = .ok (.aload_n 0, 1) := by decide +kernel
theorem dX8_addSinger_14 : decode cX8_addSinger 14 = .ok (.getfield 37, 3) := by decide +kernel
theorem dX8_addSinger_17 : decode cX8_addSinger 17 = .ok (.iload_n 1, 1) := by decide +kernel
theorem dX8_addSinger_18 : decode cX8_addSinger 18 = .ok (.iastore, 1) := by decide +kernel
theorem dX8_addSinger_19 : decode cX8_addSinger 19 = .ok (.aload_n 0, 1) := by decide +kernel
theorem dX8_addSinger_20 : decode cX8_addSinger 20 = .ok (.getfield 15, 3) := by decide +kernel
theorem dX8_addSinger_23 : decode cX8_addSinger 23 = .ok (.aload_n 0, 1) := by decide +kernel
theorem dX8_addSinger_24 : decode cX8_addSinger 24 = .ok (.getfield 37, 3) := by decide +kernel
theorem dX8_addSinger_27 : decode cX8_addSinger 27 = .ok (.iload_n 2, 1) := by decide +kernel
theorem dX8_addSinger_28 : decode cX8_addSinger 28 = .ok (.iastore, 1) := by decide +kernel
theorem dX8_addSinger_29 : decode cX8_addSinger 29 = .ok (.aload_n 0, 1) := by decide +kernel
theorem dX8_addSinger_30 : decode cX8_addSinger 30 = .ok (.getfield 18, 3) := by decide +kernel
theorem dX8_addSinger_33 : decode cX8_addSinger 33 = .ok (.aload_n 0, 1) := by decide +kernel
theorem dX8_addSinger_34 : decode cX8_addSinger 34 = .ok (.getfield 37, 3) := by decide +kernel
theorem dX8_addSinger_37 : decode cX8_addSinger 37 = .ok (.iload_n 3, 1) := by decide +kernel
theorem dX8_addSinger_38 : decode cX8_addSinger 38 = .ok (.iastore, 1) := by decide +kernel
theorem dX8_addSinger_39 : decode cX8_addSinger 39 = .ok (.aload_n 0, 1) := by decide +kernel
theorem dX8_addSinger_40 : decode cX8_addSinger 40 = .ok (.getfield 21, 3) := by decide +kernel
theorem dX8_addSinger_43 : decode cX8_addSinger 43 = .ok (.aload_n 0, 1) := by decide +kernel
theorem dX8_addSinger_44 : decode cX8_addSinger 44 = .ok (.getfield 37, 3) := by decide +kernel
theorem dX8_addSinger_47 : decode cX8_addSinger 47 = .ok (.iload 4, 2) := by decide +kernel
theorem dX8_addSinger_49 : decode cX8_addSinger 49 = .ok (.iastore, 1) := by decide +kernel
theorem dX8_addSinger_50 : decode cX8_addSinger 50 = .ok (.aload_n 0, 1) := by decide +kernel
theorem dX8_addSinger_51 : decode cX8_addSinger 51 = .ok (.dup, 1) := by decide +kernel
theorem dX8_addSinger_52 : decode cX8_addSinger 52 = .ok (.getfield 37, 3) := by decide +kernel
theorem dX8_addSinger_55 : decode cX8_addSinger 55 = .ok (.iconst 1, 1) := by decide +kernel
theorem dX8_addSinger_56 : decode cX8_addSinger 56 = .ok (.iadd, 1) := by decide +kernel
theorem dX8_addSinger_57 : decode cX8_addSinger 57 = .ok (.putfield 37, 3) := by decide +kernel
theorem dX8_addSinger_60 : decode cX8_addSinger 60 = .ok (.return_, 1) := by decide +kernel
theorem dX8_addInspector_0 : decode cX8_addInspector 0 = .ok (.aload_n 0, 1) := by decide +kernel
theorem dX8_addInspector_1 : decode cX8_addInspector 1 = .ok (.getfield 40, 3) := by decide +kernel
theorem dX8_addInspector_4 : decode cX8_addInspector 4 = .ok (.iconst 4, 1) := by decide +kernel
theorem dX8_addInspector_5 : decode cX8_addInspector 5 = .ok (.if_icmp .ge 23, 3) := by decide +kernel
theorem dX8_addInspector_8 : decode cX8_addInspector 8 = .ok (.aload_n 0, 1) := by decide +kernel
theorem dX8_addInspector_9 : decode cX8_addInspector 9 = .ok (.getfield 24, 3) := by decide +kernel
theorem dX8_addInspector_12 : decode cX8_addInspector 12 = .ok (.aload_n 0, 1) := by decide +kernel
theorem dX8_addInspector_13 : decode cX8_addInspector 13 = .ok (.getfield 40, 3) := by decide +kernel
theorem dX8_addInspector_16 : decode cX8_addInspector 16 = .ok (.iload_n 1, 1) := by decide +kernel
theorem dX8_addInspector_17 : decode cX8_addInspector 17 = .ok (.iastore, 1) := by decide +kernel
theorem dX8_addInspector_18 : decode cX8_addInspector 18 = .ok (.aload_n 0, 1) := by decide +kernel
theorem dX8_addInspector_19 : decode cX8_addInspector 19 = .ok (.dup, 1) := by decide +kernel
theorem dX8_addInspector_20 : decode cX8_addInspector 20 = .ok (.getfield 40, 3) := by decide +kernel
theorem dX8_addInspector_23 : decode cX8_addInspector 23 = .ok (.iconst 1, 1) := by decide +kernel
theorem dX8_addInspector_24 : decode cX8_addInspector 24 = .ok (.iadd, 1) := by decide +kernel
theorem dX8_addInspector_25 : decode cX8_addInspector 25 = .ok (.putfield 40, 3) := by decide +kernel
theorem dX8_addInspector_28 : decode cX8_addInspector 28 = .ok (.return_, 1) := by decide +kernel
theorem dX9_init_0 : decode cX9_init 0 = .ok (.aload_n 0, 1) := by decide +kernel
theorem dX9_init_1 : decode cX9_init 1 = .ok (.invokespecial 3, 3) := by decide +kernel
theorem dX9_init_4 : decode cX9_init 4 = .ok (.aload_n 0, 1) := by decide +kernel
theorem dX9_init_5 : decode cX9_init 5 = .ok (.bipush 9, 2) := by decide +kernel
theorem dX9_init_7 : decode cX9_init 7 = .ok (.bipush 7, 2) := by decide +kernel
theorem dX9_init_9 : decode cX9_init 9 = .ok (.multianewarray 9 2, 4) := by decide +kernel
theorem dX9_init_13 : decode cX9_init 13 = .ok (.putfield 11, 3) := by decide +kernel
theorem dX9_init_16 : decode cX9_init 16 = .ok (.aload_n 0, 1) := by decide +kernel
theorem dX9_init_17 : decode cX9_init 17 = .ok (.bipush 9, 2) := by decide +kernel
theorem dX9_init_19 : decode cX9_init 19 = .ok (.newarray .int, 2) := by decide +kernel
theorem dX9_init_21 : decode cX9_init 21 = .ok (.putfield 16, 3) := by decide +kernel
theorem dX9_init_24 : decode cX9_init 24 = .ok (.aload_n 0, 1) := by decide +kernel
theorem dX9_init_25 : decode cX9_init 25 = .ok (.iconst 0, 1) := by decide +kernel
theorem dX9_init_26 : decode cX9_init 26 = .ok (.putfield 20, 3) := by decide +kernel
theorem dX9_init_29 : decode cX9_init 29 = .ok (.aload_n 0, 1) := by decide +kernel
theorem dX9_init_30 : decode cX9_init 30 = .ok (.aload_n 1, 1) := by decide +kernel
theorem dX9_init_31 : decode cX9_init 31 = .ok (.putfield 24, 3) := by decide +kernel
theorem dX9_init_34 : decode cX9_init 34 = .ok (.return_, 1) := by decide +kernel
theorem dX9_share_0 : decode cX9_share 0 = .ok (.aload_n 0, 1) := by decide +kernel
theorem dX9_share_1 : decode cX9_share 1 = .ok (.getfield 24, 3) := by decide +kernel
theorem dX9_share_4 : decode cX9_share 4 = .ok (.getfield 28, 3) := by decide +kernel
theorem dX9_share_7 : decode cX9_share 7 = .ok (.iconst 1, 1) := by decide +kernel
theorem dX9_share_8 : decode cX9_share 8 = .ok (.isub, 1) := by decide +kernel
theorem dX9_share_9 : decode cX9_share 9 = .ok (.istore_n 2, 1) := by decide +kernel
theorem dX9_share_10 : decode cX9_share 10 = .ok (.iload_n 2, 1) := by decide +kernel
theorem dX9_share_11 : decode cX9_share 11 = .ok (.ifCond .lt 85, 3) := by decide +kernel
theorem dX9_share_14 : decode cX9_share 14 = .ok (.iconst 0, 1) := by decide +kernel
theorem dX9_share_15 : decode cX9_share 15 = .ok (.istore_n 3, 1) := by decide +kernel
theorem dX9_share_16 : decode cX9_share 16 = .ok (.iload_n 3, 1) := by decide +kernel
theorem dX9_share_17 : decode cX9_share 17 = .ok (.aload_n 0, 1) := by decide +kernel
theorem dX9_share_18 : decode cX9_share 18 = .ok (.getfield 24, 3) := by decide +kernel
theorem dX9_share_21 : decode cX9_share 21 = .ok (.getfield 33, 3) := by decide +kernel
theorem dX9_share_24 : decode cX9_share 24 = .ok (.if_icmp .ge 66, 3) := by decide +kernel
theorem dX9_share_27 : decode cX9_share 27 = .ok (.iload_n 3, 1) := by decide +kernel
theorem dX9_share_28 : decode cX9_share 28 = .ok (.iload_n 1, 1) := by decide +kernel
theorem dX9_share_29 : decode cX9_share 29 = .ok (.invokestatic 36, 3) := by decide +kernel
theorem dX9_share_32 : decode cX9_share 32 = .ok (.ifCond .eq 23, 3) := by decide +kernel
theorem dX9_share_35 : decode cX9_share 35 = .ok (.iload_n 2, 1) := by decide +kernel
theorem dX9_share_36 : decode cX9_share 36 = .ok (.aload_n 0, 1) := by decide +kernel
theorem dX9_share_37 : decode cX9_share 37 = .ok (.getfield 24, 3) := by decide +kernel
theorem dX9_share_40 : decode cX9_share 40 = .ok (.getfield 40, 3) := by decide +kernel
theorem dX9_share_43 : decode cX9_share 43 = .ok (.iload_n 3, 1) := by decide +kernel
theorem dX9_share_44 : decode cX9_share 44 = .ok (.iaload, 1) := by decide +kernel
theorem dX9_share_45 : decode cX9_share 45 = .ok (.invokestatic 36, 3) := by decide +kernel
theorem dX9_share_48 : decode cX9_share 48 = .ok (.ifCond .eq 7, 3) := by decide +kernel
theorem dX9_share_51 : decode cX9_share 51 = .ok (.iconst 1, 1) := by decide +kernel
theorem dX9_share_52 : decode cX9_share 52 = .ok (.goto 4, 3) := by decide +kernel
theorem dX9_share_55 : decode cX9_share 55 = .ok (.iconst 0, 1) := by decide +kernel
theorem dX9_share_56 : decode cX9_share 56 = .ok (.istore 4, 2) := by decide +kernel
theorem dX9_share_58 : decode cX9_share 58 = .ok (.aload_n 0, 1) := by decide +kernel
theorem dX9_share_59 : decode cX9_share 59 = .ok (.getfield 11, 3) := by decide +kernel
theorem dX9_share_62 : decode cX9_share 62 = .ok (.iload_n 2, 1) := by decide +kernel
theorem dX9_share_63 : decode cX9_share 63 = .ok (.aaload, 1) := by decide +kernel
theorem dX9_share_64 : decode cX9_share 64 = .ok (.iload_n 3, 1) := by decide +kernel
theorem dX9_share_65 : decode cX9_share 65 = .ok (.iload 4, 2) := by decide +kernel
theorem dX9_share_67 : decode cX9_share 67 = .ok (.ifCond .eq 14, 3) := by decide +kernel
theorem dX9_share_70 : decode cX9_share 70 = .ok (.aload_n 0, 1) := by decide +kernel
theorem dX9_share_71 : decode cX9_share 71 = .ok (.iload_n 2, 1) := by decide +kernel
theorem dX9_share_72 : decode cX9_share 72 = .ok (.iconst 1, 1) := by decide +kernel
theorem dX9_share_73 : decode cX9_share 73 = .ok (.iadd, 1) := by decide +kernel
theorem dX9_share_74 : decode cX9_share 74 = .ok (.iload_n 3, 1) := by decide +kernel
theorem dX9_share_75 : decode cX9_share 75 = .ok (.invokevirtual 43, 3) := by decide +kernel
theorem dX9_share_78 : decode cX9_share 78 = .ok (.goto 5, 3) := by decide +kernel
theorem dX9_share_81 : decode cX9_share 81 = .ok (.ldc 47, 2) := by decide +kernel
theorem dX9_share_83 : decode cX9_share 83 = .ok (.iastore, 1) := by decide +kernel
theorem dX9_share_84 : decode cX9_share 84 = .ok (.iinc 3 1, 3) := by decide +kernel
theorem dX9_share_87 : decode cX9_share 87 = .ok (.goto (-71), 3) := by decide +kernel
theorem dX9_share_90 : decode cX9_share 90 = .ok (.iinc 2 (-1), 3) := by decide +kernel
theorem dX9_share_93 : decode cX9_share 93 = .ok (.goto (-83), 3) := by decide +kernel
theorem dX9_share_96 : decode cX9_share 96 = .ok (.aload_n 0, 1) := by decide +kernel
theorem dX9_share_97 : decode cX9_share 97 = .ok (.aload_n 0, 1) := by decide +kernel
theorem dX9_share_98 : decode cX9_share 98 = .ok (.iconst 0, 1) := by decide +kernel
theorem dX9_share_99 : decode cX9_share 99 = .ok (.iconst (-1), 1) := by decide +kernel
theorem dX9_share_100 : decode cX9_share 100 = .ok (.invokevirtual 43, 3) := by decide +kernel
theorem dX9_share_103 : decode cX9_share 103 = .ok (.putfield 20, 3) := by decide +kernel
theorem dX9_share_106 : decode cX9_share 106 = .ok (.iconst (-1), 1) := by decide +kernel
theorem dX9_share_107 : decode cX9_share 107 = .ok (.istore_n 2, 1) := by decide +kernel
theorem dX9_share_108 : decode cX9_share 108 = .ok (.iconst 0, 1) := by decide +kernel
theorem dX9_share_109 : decode cX9_share 109 = .ok (.istore_n 3, 1) := by decide +kernel
theorem dX9_share_110 : decode cX9_share 110 = .ok (.iload_n 3, 1) := by decide +kernel
theorem dX9_share_111 : decode cX9_share 111 = .ok (.aload_n 0, 1) := by decide +kernel
theorem dX9_share_112 : decode cX9_share 112 = .ok (.getfield 24, 3) := by decide +kernel
theorem dX9_share_115 : decode cX9_share 115 = .ok (.getfield 28, 3) := by decide +kernel
theorem dX9_share_118 : decode cX9_share 118 = .ok (.if_icmp .ge 23, 3) := by decide +kernel
theorem dX9_share_121 : decode cX9_share 121 = .ok (.aload_n 0, 1) := by decide +kernel
theorem dX9_share_122 : decode cX9_share 122 = .ok (.iload_n 3, 1) := by decide +kernel
theorem dX9_share_123 : decode cX9_share 123 = .ok (.iload_n 2, 1) := by decide +kernel
theorem dX9_share_124 : decode cX9_share 124 = .ok (.invokevirtual 48, 3) := by decide +kernel
theorem dX9_share_127 : decode cX9_share 127 = .ok (.istore_n 2, 1) := by decide +kernel
theorem dX9_share_128 : decode cX9_share 128 = .ok (.aload_n 0, 1) := by decide +kernel
theorem dX9_share_129 : decode cX9_share 129 = .ok (.getfield 16, 3) := by decide +kernel
theorem dX9_share_132 : decode cX9_share 132 = .ok (.iload_n 3, 1) := by decide +kernel
theorem dX9_share_133 : decode cX9_share 133 = .ok (.iload_n 2, 1) := by decide +kernel
theorem dX9_share_134 : decode cX9_share 134 = .ok (.iastore, 1) := by decide +kernel
theorem dX9_share_135 : decode cX9_share 135 = .ok (.iinc 3 1, 3) := by decide +kernel
theorem dX9_share_138 : decode cX9_share 138 = .ok (.goto (-28), 3) := by decide +kernel
theorem dX9_share_141 : decode cX9_share 141 = .ok (.return_, 1) := by decide +kernel
theorem dX9_fewestBehind_0 : decode cX9_fewestBehind 0 = .ok (.aload_n 0, 1) := by decide +kernel
theorem dX9_fewestBehind_1 : decode cX9_fewestBehind 1 = .ok (.getfield 24, 3) := by decide +kernel
theorem dX9_fewestBehind_4 : decode cX9_fewestBehind 4 = .ok (.iload_n 1, 1) := by decide +kernel
theorem dX9_fewestBehind_5 : decode cX9_fewestBehind 5 = .ok (.invokevirtual 51, 3) := by decide +kernel
theorem dX9_fewestBehind_8 : decode cX9_fewestBehind 8 = .ok (.ifCond .ne 5, 3) := by decide +kernel
theorem dX9_fewestBehind_11 : decode cX9_fewestBehind 11 = .ok (.iconst 0, 1) := by decide +kernel
theorem dX9_fewestBehind_12 : decode cX9_fewestBehind 12 = .ok (.ireturn, 1) := by decide +kernel
theorem dX9_fewestBehind_13 : decode cX9_fewestBehind 13 = .ok (.aload_n 0, 1) := by decide +kernel
theorem dX9_fewestBehind_14 : decode cX9_fewestBehind 14 = .ok (.iload_n 1, 1) := by decide +kernel
theorem dX9_fewestBehind_15 : decode cX9_fewestBehind 15 = .ok (.iload_n 2, 1) := by decide +kernel
theorem dX9_fewestBehind_16 : decode cX9_fewestBehind 16 = .ok (.invokevirtual 48, 3) := by decide +kernel
theorem dX9_fewestBehind_19 : decode cX9_fewestBehind 19 = .ok (.istore_n 3, 1) := by decide +kernel
theorem dX9_fewestBehind_20 : decode cX9_fewestBehind 20 = .ok (.aload_n 0, 1) := by decide +kernel
theorem dX9_fewestBehind_21 : decode cX9_fewestBehind 21 = .ok (.getfield 24, 3) := by decide +kernel
theorem dX9_fewestBehind_24 : decode cX9_fewestBehind 24 = .ok (.iload_n 3, 1) := by decide +kernel
theorem dX9_fewestBehind_25 : decode cX9_fewestBehind 25 = .ok (.invokevirtual 55, 3) := by decide +kernel
theorem dX9_fewestBehind_28 : decode cX9_fewestBehind 28 = .ok (.ifCond .eq 13, 3) := by decide +kernel
theorem dX9_fewestBehind_31 : decode cX9_fewestBehind 31 = .ok (.aload_n 0, 1) := by decide +kernel
theorem dX9_fewestBehind_32 : decode cX9_fewestBehind 32 = .ok (.iload_n 1, 1) := by decide +kernel
theorem dX9_fewestBehind_33 : decode cX9_fewestBehind 33 = .ok (.iload_n 3, 1) := by decide +kernel
theorem dX9_fewestBehind_34 : decode cX9_fewestBehind 34 = .ok (.iload_n 2, 1) := by decide +kernel
theorem dX9_fewestBehind_35 : decode cX9_fewestBehind 35 = .ok (.invokevirtual 58, 3) := by decide +kernel
theorem dX9_fewestBehind_38 : decode cX9_fewestBehind 38 = .ok (.goto 5, 3) := by decide +kernel
theorem dX9_fewestBehind_41 : decode cX9_fewestBehind 41 = .ok (.ldc 47, 2) := by decide +kernel
theorem dX9_fewestBehind_43 : decode cX9_fewestBehind 43 = .ok (.ireturn, 1) := by decide +kernel
theorem dX9_bestFor_0 : decode cX9_bestFor 0 = .ok (.iconst (-1), 1) := by decide +kernel
theorem dX9_bestFor_1 : decode cX9_bestFor 1 = .ok (.istore_n 3, 1) := by decide +kernel
theorem dX9_bestFor_2 : decode cX9_bestFor 2 = .ok (.ldc 47, 2) := by decide +kernel
theorem dX9_bestFor_4 : decode cX9_bestFor 4 = .ok (.istore 4, 2) := by decide +kernel
theorem dX9_bestFor_6 : decode cX9_bestFor 6 = .ok (.iconst 0, 1) := by decide +kernel
theorem dX9_bestFor_7 : decode cX9_bestFor 7 = .ok (.istore 5, 2) := by decide +kernel
theorem dX9_bestFor_9 : decode cX9_bestFor 9 = .ok (.iload 5, 2) := by decide +kernel
theorem dX9_bestFor_11 : decode cX9_bestFor 11 = .ok (.aload_n 0, 1) := by decide +kernel
theorem dX9_bestFor_12 : decode cX9_bestFor 12 = .ok (.getfield 24, 3) := by decide +kernel
theorem dX9_bestFor_15 : decode cX9_bestFor 15 = .ok (.getfield 33, 3) := by decide +kernel
theorem dX9_bestFor_18 : decode cX9_bestFor 18 = .ok (.if_icmp .ge 33, 3) := by decide +kernel
theorem dX9_bestFor_21 : decode cX9_bestFor 21 = .ok (.aload_n 0, 1) := by decide +kernel
theorem dX9_bestFor_22 : decode cX9_bestFor 22 = .ok (.iload_n 1, 1) := by decide +kernel
theorem dX9_bestFor_23 : decode cX9_bestFor 23 = .ok (.iload 5, 2) := by decide +kernel
theorem dX9_bestFor_25 : decode cX9_bestFor 25 = .ok (.iload_n 2, 1) := by decide +kernel
theorem dX9_bestFor_26 : decode cX9_bestFor 26 = .ok (.invokevirtual 58, 3) := by decide +kernel
theorem dX9_bestFor_29 : decode cX9_bestFor 29 = .ok (.istore 6, 2) := by decide +kernel
theorem dX9_bestFor_31 : decode cX9_bestFor 31 = .ok (.iload 6, 2) := by decide +kernel
theorem dX9_bestFor_33 : decode cX9_bestFor 33 = .ok (.iload 4, 2) := by decide +kernel
theorem dX9_bestFor_35 : decode cX9_bestFor 35 = .ok (.if_icmp .ge 10, 3) := by decide +kernel
theorem dX9_bestFor_38 : decode cX9_bestFor 38 = .ok (.iload 5, 2) := by decide +kernel
theorem dX9_bestFor_40 : decode cX9_bestFor 40 = .ok (.istore_n 3, 1) := by decide +kernel
theorem dX9_bestFor_41 : decode cX9_bestFor 41 = .ok (.iload 6, 2) := by decide +kernel
theorem dX9_bestFor_43 : decode cX9_bestFor 43 = .ok (.istore 4, 2) := by decide +kernel
theorem dX9_bestFor_45 : decode cX9_bestFor 45 = .ok (.iinc 5 1, 3) := by decide +kernel
theorem dX9_bestFor_48 : decode cX9_bestFor 48 = .ok (.goto (-39), 3) := by decide +kernel
theorem dX9_bestFor_51 : decode cX9_bestFor 51 = .ok (.iload_n 3, 1) := by decide +kernel
theorem dX9_bestFor_52 : decode cX9_bestFor 52 = .ok (.ireturn, 1) := by decide +kernel
theorem dX9_costOf_0 : decode cX9_costOf 0 = .ok (.aload_n 0, 1) := by decide +kernel
theorem dX9_costOf_1 : decode cX9_costOf 1 = .ok (.getfield 11, 3) := by decide +kernel
theorem dX9_costOf_4 : decode cX9_costOf 4 = .ok (.iload_n 1, 1) := by decide +kernel
theorem dX9_costOf_5 : decode cX9_costOf 5 = .ok (.aaload, 1) := by decide +kernel
theorem dX9_costOf_6 : decode cX9_costOf 6 = .ok (.iload_n 2, 1) := by decide +kernel
theorem dX9_costOf_7 : decode cX9_costOf 7 = .ok (.iaload, 1) := by decide +kernel
theorem dX9_costOf_8 : decode cX9_costOf 8 = .ok (.iload_n 3, 1) := by decide +kernel
theorem dX9_costOf_9 : decode cX9_costOf 9 = .ok (.iconst (-1), 1) := by decide +kernel
theorem dX9_costOf_10 : decode cX9_costOf 10 = .ok (.if_icmp .eq 8, 3) := by decide +kernel
theorem dX9_costOf_13 : decode cX9_costOf 13 = .ok (.iload_n 3, 1) := by decide +kernel
theorem dX9_costOf_14 : decode cX9_costOf 14 = .ok (.iload_n 2, 1) := by decide +kernel
theorem dX9_costOf_15 : decode cX9_costOf 15 = .ok (.if_icmp .ne 7, 3) := by decide +kernel
theorem dX9_costOf_18 : decode cX9_costOf 18 = .ok (.iconst 0, 1) := by decide +kernel
theorem dX9_costOf_19 : decode cX9_costOf 19 = .ok (.goto 4, 3) := by decide +kernel
theorem dX9_costOf_22 : decode cX9_costOf 22 = .ok (.iconst 1, 1) := by decide +kernel
theorem dX9_costOf_23 : decode cX9_costOf 23 = .ok (.iadd, 1) := by decide +kernel
theorem dX9_costOf_24 : decode cX9_costOf 24 = .ok (.ireturn, 1) := by decide +kernel
theorem dJ6_bitCount_0f7a4_0 : decode cJ6_bitCount_0f7a4 0 = .ok (.iload_n 0, 1) := by decide +kernel
theorem dJ6_bitCount_0f7a4_1 : decode cJ6_bitCount_0f7a4 1 = .ok (.iload_n 0, 1) := by decide +kernel
theorem dJ6_bitCount_0f7a4_2 : decode cJ6_bitCount_0f7a4 2 = .ok (.iconst 1, 1) := by decide +kernel
theorem dJ6_bitCount_0f7a4_3 : decode cJ6_bitCount_0f7a4 3 = .ok (.iushr, 1) := by decide +kernel
theorem dJ6_bitCount_0f7a4_4 : decode cJ6_bitCount_0f7a4 4 = .ok (.ldc_w 265, 3) := by decide +kernel
theorem dJ6_bitCount_0f7a4_7 : decode cJ6_bitCount_0f7a4 7 = .ok (.iand, 1) := by decide +kernel
theorem dJ6_bitCount_0f7a4_8 : decode cJ6_bitCount_0f7a4 8 = .ok (.isub, 1) := by decide +kernel
theorem dJ6_bitCount_0f7a4_9 : decode cJ6_bitCount_0f7a4 9 = .ok (.istore_n 0, 1) := by decide +kernel
theorem dJ6_bitCount_0f7a4_10 : decode cJ6_bitCount_0f7a4 10 = .ok (.iload_n 0, 1) := by decide +kernel
theorem dJ6_bitCount_0f7a4_11 : decode cJ6_bitCount_0f7a4 11 = .ok (.ldc_w 266, 3) := by decide +kernel
theorem dJ6_bitCount_0f7a4_14 : decode cJ6_bitCount_0f7a4 14 = .ok (.iand, 1) := by decide +kernel
theorem dJ6_bitCount_0f7a4_15 : decode cJ6_bitCount_0f7a4 15 = .ok (.iload_n 0, 1) := by decide +kernel
theorem dJ6_bitCount_0f7a4_16 : decode cJ6_bitCount_0f7a4 16 = .ok (.iconst 2, 1) := by decide +kernel
theorem dJ6_bitCount_0f7a4_17 : decode cJ6_bitCount_0f7a4 17 = .ok (.iushr, 1) := by decide +kernel
theorem dJ6_bitCount_0f7a4_18 : decode cJ6_bitCount_0f7a4 18 = .ok (.ldc_w 266, 3) := by decide +kernel
theorem dJ6_bitCount_0f7a4_21 : decode cJ6_bitCount_0f7a4 21 = .ok (.iand, 1) := by decide +kernel
theorem dJ6_bitCount_0f7a4_22 : decode cJ6_bitCount_0f7a4 22 = .ok (.iadd, 1) := by decide +kernel
theorem dJ6_bitCount_0f7a4_23 : decode cJ6_bitCount_0f7a4 23 = .ok (.istore_n 0, 1) := by decide +kernel
theorem dJ6_bitCount_0f7a4_24 : decode cJ6_bitCount_0f7a4 24 = .ok (.iload_n 0, 1) := by decide +kernel
theorem dJ6_bitCount_0f7a4_25 : decode cJ6_bitCount_0f7a4 25 = .ok (.iload_n 0, 1) := by decide +kernel
theorem dJ6_bitCount_0f7a4_26 : decode cJ6_bitCount_0f7a4 26 = .ok (.iconst 4, 1) := by decide +kernel
theorem dJ6_bitCount_0f7a4_27 : decode cJ6_bitCount_0f7a4 27 = .ok (.iushr, 1) := by decide +kernel
theorem dJ6_bitCount_0f7a4_28 : decode cJ6_bitCount_0f7a4 28 = .ok (.iadd, 1) := by decide +kernel
theorem dJ6_bitCount_0f7a4_29 : decode cJ6_bitCount_0f7a4 29 = .ok (.ldc_w 267, 3) := by decide +kernel
theorem dJ6_bitCount_0f7a4_32 : decode cJ6_bitCount_0f7a4 32 = .ok (.iand, 1) := by decide +kernel
theorem dJ6_bitCount_0f7a4_33 : decode cJ6_bitCount_0f7a4 33 = .ok (.istore_n 0, 1) := by decide +kernel
theorem dJ6_bitCount_0f7a4_34 : decode cJ6_bitCount_0f7a4 34 = .ok (.iload_n 0, 1) := by decide +kernel
theorem dJ6_bitCount_0f7a4_35 : decode cJ6_bitCount_0f7a4 35 = .ok (.iload_n 0, 1) := by decide +kernel
theorem dJ6_bitCount_0f7a4_36 : decode cJ6_bitCount_0f7a4 36 = .ok (.bipush 8, 2) := by decide +kernel
theorem dJ6_bitCount_0f7a4_38 : decode cJ6_bitCount_0f7a4 38 = .ok (.iushr, 1) := by decide +kernel
theorem dJ6_bitCount_0f7a4_39 : decode cJ6_bitCount_0f7a4 39 = .ok (.iadd, 1) := by decide +kernel
theorem dJ6_bitCount_0f7a4_40 : decode cJ6_bitCount_0f7a4 40 = .ok (.istore_n 0, 1) := by decide +kernel
theorem dJ6_bitCount_0f7a4_41 : decode cJ6_bitCount_0f7a4 41 = .ok (.iload_n 0, 1) := by decide +kernel
theorem dJ6_bitCount_0f7a4_42 : decode cJ6_bitCount_0f7a4 42 = .ok (.iload_n 0, 1) := by decide +kernel
theorem dJ6_bitCount_0f7a4_43 : decode cJ6_bitCount_0f7a4 43 = .ok (.bipush 16, 2) := by decide +kernel
theorem dJ6_bitCount_0f7a4_45 : decode cJ6_bitCount_0f7a4 45 = .ok (.iushr, 1) := by decide +kernel
theorem dJ6_bitCount_0f7a4_46 : decode cJ6_bitCount_0f7a4 46 = .ok (.iadd, 1) := by decide +kernel
theorem dJ6_bitCount_0f7a4_47 : decode cJ6_bitCount_0f7a4 47 = .ok (.istore_n 0, 1) := by decide +kernel
theorem dJ6_bitCount_0f7a4_48 : decode cJ6_bitCount_0f7a4 48 = .ok (.iload_n 0, 1) := by decide +kernel
theorem dJ6_bitCount_0f7a4_49 : decode cJ6_bitCount_0f7a4 49 = .ok (.bipush 63, 2) := by decide +kernel
theorem dJ6_bitCount_0f7a4_51 : decode cJ6_bitCount_0f7a4 51 = .ok (.iand, 1) := by decide +kernel
theorem dJ6_bitCount_0f7a4_52 : decode cJ6_bitCount_0f7a4 52 = .ok (.ireturn, 1) := by decide +kernel
theorem dJ9_max_7cf53_0 : decode cJ9_max_7cf53 0 = .ok (.iload_n 0, 1) := by decide +kernel
theorem dJ9_max_7cf53_1 : decode cJ9_max_7cf53 1 = .ok (.iload_n 1, 1) := by decide +kernel
theorem dJ9_max_7cf53_2 : decode cJ9_max_7cf53 2 = .ok (.if_icmp .lt 7, 3) := by decide +kernel
theorem dJ9_max_7cf53_5 : decode cJ9_max_7cf53 5 = .ok (.iload_n 0, 1) := by decide +kernel
theorem dJ9_max_7cf53_6 : decode cJ9_max_7cf53 6 = .ok (.goto 4, 3) := by decide +kernel
theorem dJ9_max_7cf53_9 : decode cJ9_max_7cf53 9 = .ok (.iload_n 1, 1) := by decide +kernel
theorem dJ9_max_7cf53_10 : decode cJ9_max_7cf53 10 = .ok (.ireturn, 1) := by decide +kernel
theorem dJ9_min_7cf53_0 : decode cJ9_min_7cf53 0 = .ok (.iload_n 0, 1) := by decide +kernel
theorem dJ9_min_7cf53_1 : decode cJ9_min_7cf53 1 = .ok (.iload_n 1, 1) := by decide +kernel
theorem dJ9_min_7cf53_2 : decode cJ9_min_7cf53 2 = .ok (.if_icmp .gt 7, 3) := by decide +kernel
theorem dJ9_min_7cf53_5 : decode cJ9_min_7cf53 5 = .ok (.iload_n 0, 1) := by decide +kernel
theorem dJ9_min_7cf53_6 : decode cJ9_min_7cf53 6 = .ok (.goto 4, 3) := by decide +kernel
theorem dJ9_min_7cf53_9 : decode cJ9_min_7cf53 9 = .ok (.iload_n 1, 1) := by decide +kernel
theorem dJ9_min_7cf53_10 : decode cJ9_min_7cf53 10 = .ok (.ireturn, 1) := by decide +kernel
