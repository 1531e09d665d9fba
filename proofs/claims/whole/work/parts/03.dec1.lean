theorem dX2_init_0 : decode cX2_init 0 = .ok (.aload_n 0, 1) := by decide +kernel
theorem dX2_init_1 : decode cX2_init 1 = .ok (.invokespecial 3, 3) := by decide +kernel
theorem dX2_init_4 : decode cX2_init 4 = .ok (.aload_n 0, 1) := by decide +kernel
theorem dX2_init_5 : decode cX2_init 5 = .ok (.iconst 5, 1) := by decide +kernel
theorem dX2_init_6 : decode cX2_init 6 = .ok (.newarray .int, 2) := by decide +kernel
theorem dX2_init_8 : decode cX2_init 8 = .ok (.putfield 11, 3) := by decide +kernel
theorem dX2_init_11 : decode cX2_init 11 = .ok (.aload_n 0, 1) := by decide +kernel
theorem dX2_init_12 : decode cX2_init 12 = .ok (.aload_n 1, 1) := by decide +kernel
theorem dX2_init_13 : decode cX2_init 13 = .ok (.putfield 15, 3) := by decide +kernel
theorem dX2_init_16 : decode cX2_init 16 = .ok (.aload_n 0, 1) := by decide +kernel
theorem dX2_init_17 : decode cX2_init 17 = .ok (.aload_n 2, 1) := by decide +kernel
theorem dX2_init_18 : decode cX2_init 18 = .ok (.putfield 19, 3) := by decide +kernel
theorem dX2_init_21 : decode cX2_init 21 = .ok (.return_, 1) := by decide +kernel
theorem dX2_behind_0 : decode cX2_behind 0 = .ok (.aload_n 0, 1) := by decide +kernel
theorem dX2_behind_1 : decode cX2_behind 1 = .ok (.getfield 19, 3) := by decide +kernel
theorem dX2_behind_4 : decode cX2_behind 4 = .ok (.aload_n 0, 1) := by decide +kernel
theorem dX2_behind_5 : decode cX2_behind 5 = .ok (.getfield 15, 3) := by decide +kernel
theorem dX2_behind_8 : decode cX2_behind 8 = .ok (.invokevirtual 22, 3) := by decide +kernel
theorem dX2_behind_11 : decode cX2_behind 11 = .ok (.aload_n 0, 1) := by decide +kernel
theorem dX2_behind_12 : decode cX2_behind 12 = .ok (.iload_n 1, 1) := by decide +kernel
theorem dX2_behind_13 : decode cX2_behind 13 = .ok (.invokevirtual 28, 3) := by decide +kernel
theorem dX2_behind_16 : decode cX2_behind 16 = .ok (.areturn, 1) := by decide +kernel
theorem dX2_goOn_0 : decode cX2_goOn 0 = .ok (.iconst 0, 1) := by decide +kernel
theorem dX2_goOn_1 : decode cX2_goOn 1 = .ok (.istore_n 2, 1) := by decide +kernel
theorem dX2_goOn_2 : decode cX2_goOn 2 = .ok (.iload_n 2, 1) := by decide +kernel
theorem dX2_goOn_3 : decode cX2_goOn 3 = .ok (.iload_n 1, 1) := by decide +kernel
theorem dX2_goOn_4 : decode cX2_goOn 4 = .ok (.if_icmp .ge 16, 3) := by decide +kernel
theorem dX2_goOn_7 : decode cX2_goOn 7 = .ok (.aload_n 0, 1) := by decide +kernel
theorem dX2_goOn_8 : decode cX2_goOn 8 = .ok (.getfield 19, 3) := by decide +kernel
theorem dX2_goOn_11 : decode cX2_goOn 11 = .ok (.invokevirtual 32, 3) := by decide +kernel
theorem dX2_goOn_14 : decode cX2_goOn 14 = .ok (.iinc 2 1, 3) := by decide +kernel
theorem dX2_goOn_17 : decode cX2_goOn 17 = .ok (.goto (-15), 3) := by decide +kernel
theorem dX2_goOn_20 : decode cX2_goOn 20 = .ok (.aload_n 0, 1) := by decide +kernel
theorem dX2_goOn_21 : decode cX2_goOn 21 = .ok (.getfield 19, 3) := by decide +kernel
theorem dX2_goOn_24 : decode cX2_goOn 24 = .ok (.areturn, 1) := by decide +kernel
theorem dX2_whenGone_0 : decode cX2_whenGone 0 = .ok (.aload_n 0, 1) := by decide +kernel
theorem dX2_whenGone_1 : decode cX2_whenGone 1 = .ok (.getfield 19, 3) := by decide +kernel
theorem dX2_whenGone_4 : decode cX2_whenGone 4 = .ok (.aload_n 0, 1) := by decide +kernel
theorem dX2_whenGone_5 : decode cX2_whenGone 5 = .ok (.getfield 15, 3) := by decide +kernel
theorem dX2_whenGone_8 : decode cX2_whenGone 8 = .ok (.invokevirtual 22, 3) := by decide +kernel
theorem dX2_whenGone_11 : decode cX2_whenGone 11 = .ok (.iconst 0, 1) := by decide +kernel
theorem dX2_whenGone_12 : decode cX2_whenGone 12 = .ok (.istore_n 2, 1) := by decide +kernel
theorem dX2_whenGone_13 : decode cX2_whenGone 13 = .ok (.iload_n 2, 1) := by decide +kernel
theorem dX2_whenGone_14 : decode cX2_whenGone 14 = .ok (.bipush 60, 2) := by decide +kernel
theorem dX2_whenGone_16 : decode cX2_whenGone 16 = .ok (.if_icmp .gt 29, 3) := by decide +kernel
theorem dX2_whenGone_19 : decode cX2_whenGone 19 = .ok (.aload_n 0, 1) := by decide +kernel
theorem dX2_whenGone_20 : decode cX2_whenGone 20 = .ok (.getfield 19, 3) := by decide +kernel
theorem dX2_whenGone_23 : decode cX2_whenGone 23 = .ok (.iload_n 1, 1) := by decide +kernel
theorem dX2_whenGone_24 : decode cX2_whenGone 24 = .ok (.invokevirtual 35, 3) := by decide +kernel
theorem dX2_whenGone_27 : decode cX2_whenGone 27 = .ok (.ifCond .ne 5, 3) := by decide +kernel
theorem dX2_whenGone_30 : decode cX2_whenGone 30 = .ok (.iload_n 2, 1) := by decide +kernel
theorem dX2_whenGone_31 : decode cX2_whenGone 31 = .ok (.ireturn, 1) := by decide +kernel
theorem dX2_whenGone_32 : decode cX2_whenGone 32 = .ok (.aload_n 0, 1) := by decide +kernel
theorem dX2_whenGone_33 : decode cX2_whenGone 33 = .ok (.getfield 19, 3) := by decide +kernel
theorem dX2_whenGone_36 : decode cX2_whenGone 36 = .ok (.invokevirtual 32, 3) := by decide +kernel
theorem dX2_whenGone_39 : decode cX2_whenGone 39 = .ok (.iinc 2 1, 3) := by decide +kernel
theorem dX2_whenGone_42 : decode cX2_whenGone 42 = .ok (.goto (-29), 3) := by decide +kernel
theorem dX2_whenGone_45 : decode cX2_whenGone 45 = .ok (.ldc 39, 2) := by decide +kernel
theorem dX2_whenGone_47 : decode cX2_whenGone 47 = .ok (.ireturn, 1) := by decide +kernel
theorem dX2_whenEmpty_0 : decode cX2_whenEmpty 0 = .ok (.iconst 1, 1) := by decide +kernel
theorem dX2_whenEmpty_1 : decode cX2_whenEmpty 1 = .ok (.aload_n 0, 1) := by decide +kernel
theorem dX2_whenEmpty_2 : decode cX2_whenEmpty 2 = .ok (.getfield 15, 3) := by decide +kernel
theorem dX2_whenEmpty_5 : decode cX2_whenEmpty 5 = .ok (.getfield 40, 3) := by decide +kernel
theorem dX2_whenEmpty_8 : decode cX2_whenEmpty 8 = .ok (.ishl, 1) := by decide +kernel
theorem dX2_whenEmpty_9 : decode cX2_whenEmpty 9 = .ok (.iconst 1, 1) := by decide +kernel
theorem dX2_whenEmpty_10 : decode cX2_whenEmpty 10 = .ok (.isub, 1) := by decide +kernel
theorem dX2_whenEmpty_11 : decode cX2_whenEmpty 11 = .ok (.istore_n 1, 1) := by decide +kernel
theorem dX2_whenEmpty_12 : decode cX2_whenEmpty 12 = .ok (.aload_n 0, 1) := by decide +kernel
theorem dX2_whenEmpty_13 : decode cX2_whenEmpty 13 = .ok (.getfield 19, 3) := by decide +kernel
theorem dX2_whenEmpty_16 : decode cX2_whenEmpty 16 = .ok (.aload_n 0, 1) := by decide +kernel
theorem dX2_whenEmpty_17 : decode cX2_whenEmpty 17 = .ok (.getfield 15, 3) := by decide +kernel
theorem dX2_whenEmpty_20 : decode cX2_whenEmpty 20 = .ok (.invokevirtual 22, 3) := by decide +kernel
theorem dX2_whenEmpty_23 : decode cX2_whenEmpty 23 = .ok (.iconst 0, 1) := by decide +kernel
theorem dX2_whenEmpty_24 : decode cX2_whenEmpty 24 = .ok (.istore_n 2, 1) := by decide +kernel
theorem dX2_whenEmpty_25 : decode cX2_whenEmpty 25 = .ok (.iload_n 2, 1) := by decide +kernel
theorem dX2_whenEmpty_26 : decode cX2_whenEmpty 26 = .ok (.bipush 60, 2) := by decide +kernel
theorem dX2_whenEmpty_28 : decode cX2_whenEmpty 28 = .ok (.if_icmp .gt 30, 3) := by decide +kernel
theorem dX2_whenEmpty_31 : decode cX2_whenEmpty 31 = .ok (.aload_n 0, 1) := by decide +kernel
theorem dX2_whenEmpty_32 : decode cX2_whenEmpty 32 = .ok (.getfield 19, 3) := by decide +kernel
theorem dX2_whenEmpty_35 : decode cX2_whenEmpty 35 = .ok (.iconst 3, 1) := by decide +kernel
theorem dX2_whenEmpty_36 : decode cX2_whenEmpty 36 = .ok (.invokevirtual 44, 3) := by decide +kernel
theorem dX2_whenEmpty_39 : decode cX2_whenEmpty 39 = .ok (.iload_n 1, 1) := by decide +kernel
theorem dX2_whenEmpty_40 : decode cX2_whenEmpty 40 = .ok (.if_icmp .ne 5, 3) := by decide +kernel
theorem dX2_whenEmpty_43 : decode cX2_whenEmpty 43 = .ok (.iload_n 2, 1) := by decide +kernel
theorem dX2_whenEmpty_44 : decode cX2_whenEmpty 44 = .ok (.ireturn, 1) := by decide +kernel
theorem dX2_whenEmpty_45 : decode cX2_whenEmpty 45 = .ok (.aload_n 0, 1) := by decide +kernel
theorem dX2_whenEmpty_46 : decode cX2_whenEmpty 46 = .ok (.getfield 19, 3) := by decide +kernel
theorem dX2_whenEmpty_49 : decode cX2_whenEmpty 49 = .ok (.invokevirtual 32, 3) := by decide +kernel
theorem dX2_whenEmpty_52 : decode cX2_whenEmpty 52 = .ok (.iinc 2 1, 3) := by decide +kernel
theorem dX2_whenEmpty_55 : decode cX2_whenEmpty 55 = .ok (.goto (-30), 3) := by decide +kernel
theorem dX2_whenEmpty_58 : decode cX2_whenEmpty 58 = .ok (.ldc 39, 2) := by decide +kernel
theorem dX2_whenEmpty_60 : decode cX2_whenEmpty 60 = .ok (.ireturn, 1) := by decide +kernel
theorem dX2_bestStand_0 : decode cX2_bestStand 0 = .ok (.ldc 39, 2) := by decide +kernel
theorem dX2_bestStand_2 : decode cX2_bestStand 2 = .ok (.istore 4, 2) := by decide +kernel
theorem dX2_bestStand_4 : decode cX2_bestStand 4 = .ok (.ldc 39, 2) := by decide +kernel
theorem dX2_bestStand_6 : decode cX2_bestStand 6 = .ok (.istore 5, 2) := by decide +kernel
theorem dX2_bestStand_8 : decode cX2_bestStand 8 = .ok (.iconst 0, 1) := by decide +kernel
theorem dX2_bestStand_9 : decode cX2_bestStand 9 = .ok (.istore 6, 2) := by decide +kernel
theorem dX2_bestStand_11 : decode cX2_bestStand 11 = .ok (.iload 6, 2) := by decide +kernel
theorem dX2_bestStand_13 : decode cX2_bestStand 13 = .ok (.aload_n 0, 1) := by decide +kernel
theorem dX2_bestStand_14 : decode cX2_bestStand 14 = .ok (.getfield 15, 3) := by decide +kernel
theorem dX2_bestStand_17 : decode cX2_bestStand 17 = .ok (.getfield 48, 3) := by decide +kernel
theorem dX2_bestStand_20 : decode cX2_bestStand 20 = .ok (.if_icmp .ge 52, 3) := by decide +kernel
theorem dX2_bestStand_23 : decode cX2_bestStand 23 = .ok (.iload 5, 2) := by decide +kernel
theorem dX2_bestStand_25 : decode cX2_bestStand 25 = .ok (.ldc 39, 2) := by decide +kernel
theorem dX2_bestStand_27 : decode cX2_bestStand 27 = .ok (.if_icmp .ne 7, 3) := by decide +kernel
theorem dX2_bestStand_30 : decode cX2_bestStand 30 = .ok (.iload_n 2, 1) := by decide +kernel
theorem dX2_bestStand_31 : decode cX2_bestStand 31 = .ok (.goto 7, 3) := by decide +kernel
theorem dX2_bestStand_34 : decode cX2_bestStand 34 = .ok (.iload 5, 2) := by decide +kernel
theorem dX2_bestStand_36 : decode cX2_bestStand 36 = .ok (.iconst 1, 1) := by decide +kernel
theorem dX2_bestStand_37 : decode cX2_bestStand 37 = .ok (.isub, 1) := by decide +kernel
theorem dX2_bestStand_38 : decode cX2_bestStand 38 = .ok (.istore 7, 2) := by decide +kernel
theorem dX2_bestStand_40 : decode cX2_bestStand 40 = .ok (.aload_n 0, 1) := by decide +kernel
theorem dX2_bestStand_41 : decode cX2_bestStand 41 = .ok (.iload_n 1, 1) := by decide +kernel
theorem dX2_bestStand_42 : decode cX2_bestStand 42 = .ok (.iload 6, 2) := by decide +kernel
theorem dX2_bestStand_44 : decode cX2_bestStand 44 = .ok (.iload 7, 2) := by decide +kernel
theorem dX2_bestStand_46 : decode cX2_bestStand 46 = .ok (.invokevirtual 51, 3) := by decide +kernel
theorem dX2_bestStand_49 : decode cX2_bestStand 49 = .ok (.istore 8, 2) := by decide +kernel
theorem dX2_bestStand_51 : decode cX2_bestStand 51 = .ok (.iload 8, 2) := by decide +kernel
theorem dX2_bestStand_53 : decode cX2_bestStand 53 = .ok (.ldc 39, 2) := by decide +kernel
theorem dX2_bestStand_55 : decode cX2_bestStand 55 = .ok (.if_icmp .eq 11, 3) := by decide +kernel
theorem dX2_bestStand_58 : decode cX2_bestStand 58 = .ok (.iload 6, 2) := by decide +kernel
theorem dX2_bestStand_60 : decode cX2_bestStand 60 = .ok (.istore 4, 2) := by decide +kernel
theorem dX2_bestStand_62 : decode cX2_bestStand 62 = .ok (.iload 8, 2) := by decide +kernel
theorem dX2_bestStand_64 : decode cX2_bestStand 64 = .ok (.istore 5, 2) := by decide +kernel
theorem dX2_bestStand_66 : decode cX2_bestStand 66 = .ok (.iinc 6 1, 3) := by decide +kernel
theorem dX2_bestStand_69 : decode cX2_bestStand 69 = .ok (.goto (-58), 3) := by decide +kernel
theorem dX2_bestStand_72 : decode cX2_bestStand 72 = .ok (.iload_n 3, 1) := by decide +kernel
theorem dX2_bestStand_73 : decode cX2_bestStand 73 = .ok (.ifCond .ne 8, 3) := by decide +kernel
theorem dX2_bestStand_76 : decode cX2_bestStand 76 = .ok (.iload 4, 2) := by decide +kernel
theorem dX2_bestStand_78 : decode cX2_bestStand 78 = .ok (.goto 5, 3) := by decide +kernel
theorem dX2_bestStand_81 : decode cX2_bestStand 81 = .ok (.iload 5, 2) := by decide +kernel
theorem dX2_bestStand_83 : decode cX2_bestStand 83 = .ok (.ireturn, 1) := by decide +kernel
theorem dX2_whenGoneWithOwn_0 : decode cX2_whenGoneWithOwn 0 = .ok (.aload_n 0, 1) := by decide +kernel
theorem dX2_whenGoneWithOwn_1 : decode cX2_whenGoneWithOwn 1 = .ok (.getfield 19, 3) := by decide +kernel
theorem dX2_whenGoneWithOwn_4 : decode cX2_whenGoneWithOwn 4 = .ok (.aload_n 0, 1) := by decide +kernel
theorem dX2_whenGoneWithOwn_5 : decode cX2_whenGoneWithOwn 5 = .ok (.getfield 15, 3) := by decide +kernel
theorem dX2_whenGoneWithOwn_8 : decode cX2_whenGoneWithOwn 8 = .ok (.invokevirtual 22, 3) := by decide +kernel
theorem dX2_whenGoneWithOwn_11 : decode cX2_whenGoneWithOwn 11 = .ok (.aload_n 0, 1) := by decide +kernel
theorem dX2_whenGoneWithOwn_12 : decode cX2_whenGoneWithOwn 12 = .ok (.getfield 19, 3) := by decide +kernel
theorem dX2_whenGoneWithOwn_15 : decode cX2_whenGoneWithOwn 15 = .ok (.getfield 55, 3) := by decide +kernel
theorem dX2_whenGoneWithOwn_18 : decode cX2_whenGoneWithOwn 18 = .ok (.iload_n 1, 1) := by decide +kernel
theorem dX2_whenGoneWithOwn_19 : decode cX2_whenGoneWithOwn 19 = .ok (.iload_n 2, 1) := by decide +kernel
theorem dX2_whenGoneWithOwn_20 : decode cX2_whenGoneWithOwn 20 = .ok (.iastore, 1) := by decide +kernel
theorem dX2_whenGoneWithOwn_21 : decode cX2_whenGoneWithOwn 21 = .ok (.iconst 1, 1) := by decide +kernel
theorem dX2_whenGoneWithOwn_22 : decode cX2_whenGoneWithOwn 22 = .ok (.istore 4, 2) := by decide +kernel
theorem dX2_whenGoneWithOwn_24 : decode cX2_whenGoneWithOwn 24 = .ok (.iload 4, 2) := by decide +kernel
theorem dX2_whenGoneWithOwn_26 : decode cX2_whenGoneWithOwn 26 = .ok (.iload_n 3, 1) := by decide +kernel
theorem dX2_whenGoneWithOwn_27 : decode cX2_whenGoneWithOwn 27 = .ok (.if_icmp .gt 46, 3) := by decide +kernel
theorem dX2_whenGoneWithOwn_30 : decode cX2_whenGoneWithOwn 30 = .ok (.aload_n 0, 1) := by decide +kernel
theorem dX2_whenGoneWithOwn_31 : decode cX2_whenGoneWithOwn 31 = .ok (.getfield 19, 3) := by decide +kernel
theorem dX2_whenGoneWithOwn_34 : decode cX2_whenGoneWithOwn 34 = .ok (.invokevirtual 32, 3) := by decide +kernel
theorem dX2_whenGoneWithOwn_37 : decode cX2_whenGoneWithOwn 37 = .ok (.aload_n 0, 1) := by decide +kernel
theorem dX2_whenGoneWithOwn_38 : decode cX2_whenGoneWithOwn 38 = .ok (.getfield 19, 3) := by decide +kernel
theorem dX2_whenGoneWithOwn_41 : decode cX2_whenGoneWithOwn 41 = .ok (.iload_n 1, 1) := by decide +kernel
theorem dX2_whenGoneWithOwn_42 : decode cX2_whenGoneWithOwn 42 = .ok (.invokevirtual 35, 3) := by decide +kernel
theorem dX2_whenGoneWithOwn_45 : decode cX2_whenGoneWithOwn 45 = .ok (.ifCond .ne 22, 3) := by decide +kernel
theorem dX2_whenGoneWithOwn_48 : decode cX2_whenGoneWithOwn 48 = .ok (.aload_n 0, 1) := by decide +kernel
theorem dX2_whenGoneWithOwn_49 : decode cX2_whenGoneWithOwn 49 = .ok (.getfield 19, 3) := by decide +kernel
theorem dX2_whenGoneWithOwn_52 : decode cX2_whenGoneWithOwn 52 = .ok (.iload_n 1, 1) := by decide +kernel
theorem dX2_whenGoneWithOwn_53 : decode cX2_whenGoneWithOwn 53 = .ok (.invokevirtual 58, 3) := by decide +kernel
theorem dX2_whenGoneWithOwn_56 : decode cX2_whenGoneWithOwn 56 = .ok (.ifCond .eq 8, 3) := by decide +kernel
theorem dX2_whenGoneWithOwn_59 : decode cX2_whenGoneWithOwn 59 = .ok (.ldc 39, 2) := by decide +kernel
theorem dX2_whenGoneWithOwn_61 : decode cX2_whenGoneWithOwn 61 = .ok (.goto 5, 3) := by decide +kernel
theorem dX2_whenGoneWithOwn_64 : decode cX2_whenGoneWithOwn 64 = .ok (.iload 4, 2) := by decide +kernel
theorem dX2_whenGoneWithOwn_66 : decode cX2_whenGoneWithOwn 66 = .ok (.ireturn, 1) := by decide +kernel
theorem dX2_whenGoneWithOwn_67 : decode cX2_whenGoneWithOwn 67 = .ok (.iinc 4 1, 3) := by decide +kernel
theorem dX2_whenGoneWithOwn_70 : decode cX2_whenGoneWithOwn 70 = .ok (.goto (-46), 3) := by decide +kernel
theorem dX2_whenGoneWithOwn_73 : decode cX2_whenGoneWithOwn 73 = .ok (.ldc 39, 2) := by decide +kernel
theorem dX2_whenGoneWithOwn_75 : decode cX2_whenGoneWithOwn 75 = .ok (.ireturn, 1) := by decide +kernel
theorem dX2_fewestMarks_0 : decode cX2_fewestMarks 0 = .ok (.aload_n 0, 1) := by decide +kernel
theorem dX2_fewestMarks_1 : decode cX2_fewestMarks 1 = .ok (.getfield 15, 3) := by decide +kernel
theorem dX2_fewestMarks_4 : decode cX2_fewestMarks 4 = .ok (.iconst 5, 1) := by decide +kernel
theorem dX2_fewestMarks_5 : decode cX2_fewestMarks 5 = .ok (.invokevirtual 44, 3) := by decide +kernel
theorem dX2_fewestMarks_8 : decode cX2_fewestMarks 8 = .ok (.istore_n 2, 1) := by decide +kernel
theorem dX2_fewestMarks_9 : decode cX2_fewestMarks 9 = .ok (.iconst 1, 1) := by decide +kernel
theorem dX2_fewestMarks_10 : decode cX2_fewestMarks 10 = .ok (.aload_n 0, 1) := by decide +kernel
theorem dX2_fewestMarks_11 : decode cX2_fewestMarks 11 = .ok (.getfield 15, 3) := by decide +kernel
theorem dX2_fewestMarks_14 : decode cX2_fewestMarks 14 = .ok (.getfield 40, 3) := by decide +kernel
theorem dX2_fewestMarks_17 : decode cX2_fewestMarks 17 = .ok (.ishl, 1) := by decide +kernel
theorem dX2_fewestMarks_18 : decode cX2_fewestMarks 18 = .ok (.iconst 1, 1) := by decide +kernel
theorem dX2_fewestMarks_19 : decode cX2_fewestMarks 19 = .ok (.isub, 1) := by decide +kernel
theorem dX2_fewestMarks_20 : decode cX2_fewestMarks 20 = .ok (.istore_n 3, 1) := by decide +kernel
theorem dX2_fewestMarks_21 : decode cX2_fewestMarks 21 = .ok (.iconst 0, 1) := by decide +kernel
theorem dX2_fewestMarks_22 : decode cX2_fewestMarks 22 = .ok (.istore 4, 2) := by decide +kernel
theorem dX2_fewestMarks_24 : decode cX2_fewestMarks 24 = .ok (.iload 4, 2) := by decide +kernel
theorem dX2_fewestMarks_26 : decode cX2_fewestMarks 26 = .ok (.iconst 1, 1) := by decide +kernel
theorem dX2_fewestMarks_27 : decode cX2_fewestMarks 27 = .ok (.aload_n 0, 1) := by decide +kernel
theorem dX2_fewestMarks_28 : decode cX2_fewestMarks 28 = .ok (.getfield 15, 3) := by decide +kernel
theorem dX2_fewestMarks_31 : decode cX2_fewestMarks 31 = .ok (.getfield 40, 3) := by decide +kernel
theorem dX2_fewestMarks_34 : decode cX2_fewestMarks 34 = .ok (.ishl, 1) := by decide +kernel
theorem dX2_fewestMarks_35 : decode cX2_fewestMarks 35 = .ok (.if_icmp .ge 61, 3) := by decide +kernel
theorem dX2_fewestMarks_38 : decode cX2_fewestMarks 38 = .ok (.iload 4, 2) := by decide +kernel
theorem dX2_fewestMarks_40 : decode cX2_fewestMarks 40 = .ok (.invokestatic 61, 3) := by decide +kernel
theorem dX2_fewestMarks_43 : decode cX2_fewestMarks 43 = .ok (.iload_n 3, 1) := by decide +kernel
theorem dX2_fewestMarks_44 : decode cX2_fewestMarks 44 = .ok (.invokestatic 61, 3) := by decide +kernel
theorem dX2_fewestMarks_47 : decode cX2_fewestMarks 47 = .ok (.if_icmp .ge 43, 3) := by decide +kernel
theorem dX2_fewestMarks_50 : decode cX2_fewestMarks 50 = .ok (.aload_n 0, 1) := by decide +kernel
theorem dX2_fewestMarks_51 : decode cX2_fewestMarks 51 = .ok (.getfield 19, 3) := by decide +kernel
theorem dX2_fewestMarks_54 : decode cX2_fewestMarks 54 = .ok (.aload_n 0, 1) := by decide +kernel
theorem dX2_fewestMarks_55 : decode cX2_fewestMarks 55 = .ok (.getfield 15, 3) := by decide +kernel
theorem dX2_fewestMarks_58 : decode cX2_fewestMarks 58 = .ok (.invokevirtual 22, 3) := by decide +kernel
theorem dX2_fewestMarks_61 : decode cX2_fewestMarks 61 = .ok (.aload_n 0, 1) := by decide +kernel
theorem dX2_fewestMarks_62 : decode cX2_fewestMarks 62 = .ok (.iload 4, 2) := by decide +kernel
theorem dX2_fewestMarks_64 : decode cX2_fewestMarks 64 = .ok (.invokevirtual 66, 3) := by decide +kernel
theorem dX2_fewestMarks_67 : decode cX2_fewestMarks 67 = .ok (.aload_n 0, 1) := by decide +kernel
theorem dX2_fewestMarks_68 : decode cX2_fewestMarks 68 = .ok (.iload_n 1, 1) := by decide +kernel
theorem dX2_fewestMarks_69 : decode cX2_fewestMarks 69 = .ok (.invokevirtual 28, 3) := by decide +kernel
theorem dX2_fewestMarks_72 : decode cX2_fewestMarks 72 = .ok (.iconst 5, 1) := by decide +kernel
theorem dX2_fewestMarks_73 : decode cX2_fewestMarks 73 = .ok (.invokevirtual 44, 3) := by decide +kernel
theorem dX2_fewestMarks_76 : decode cX2_fewestMarks 76 = .ok (.iload_n 2, 1) := by decide +kernel
theorem dX2_fewestMarks_77 : decode cX2_fewestMarks 77 = .ok (.iconst (-1), 1) := by decide +kernel
theorem dX2_fewestMarks_78 : decode cX2_fewestMarks 78 = .ok (.ixor, 1) := by decide +kernel
theorem dX2_fewestMarks_79 : decode cX2_fewestMarks 79 = .ok (.iand, 1) := by decide +kernel
theorem dX2_fewestMarks_80 : decode cX2_fewestMarks 80 = .ok (.ifCond .ne 8, 3) := by decide +kernel
theorem dX2_fewestMarks_83 : decode cX2_fewestMarks 83 = .ok (.iload 4, 2) := by decide +kernel
theorem dX2_fewestMarks_85 : decode cX2_fewestMarks 85 = .ok (.goto 4, 3) := by decide +kernel
theorem dX2_fewestMarks_88 : decode cX2_fewestMarks 88 = .ok (.iload_n 3, 1) := by decide +kernel
theorem dX2_fewestMarks_89 : decode cX2_fewestMarks 89 = .ok (.istore_n 3, 1) := by decide +kernel
theorem dX2_fewestMarks_90 : decode cX2_fewestMarks 90 = .ok (.iinc 4 1, 3) := by decide +kernel
theorem dX2_fewestMarks_93 : decode cX2_fewestMarks 93 = .ok (.goto (-69), 3) := by decide +kernel
theorem dX2_fewestMarks_96 : decode cX2_fewestMarks 96 = .ok (.iload_n 3, 1) := by decide +kernel
theorem dX2_fewestMarks_97 : decode cX2_fewestMarks 97 = .ok (.ireturn, 1) := by decide +kernel
theorem dX2_markEach_0 : decode cX2_markEach 0 = .ok (.iconst 0, 1) := by decide +kernel
theorem dX2_markEach_1 : decode cX2_markEach 1 = .ok (.istore_n 2, 1) := by decide +kernel
theorem dX2_markEach_2 : decode cX2_markEach 2 = .ok (.iload_n 2, 1) := by decide +kernel
theorem dX2_markEach_3 : decode cX2_markEach 3 = .ok (.aload_n 0, 1) := by decide +kernel
theorem dX2_markEach_4 : decode cX2_markEach 4 = .ok (.getfield 19, 3) := by decide +kernel
theorem dX2_markEach_7 : decode cX2_markEach 7 = .ok (.getfield 40, 3) := by decide +kernel
theorem dX2_markEach_10 : decode cX2_markEach 10 = .ok (.if_icmp .ge 31, 3) := by decide +kernel
theorem dX2_markEach_13 : decode cX2_markEach 13 = .ok (.iload_n 1, 1) := by decide +kernel
theorem dX2_markEach_14 : decode cX2_markEach 14 = .ok (.iload_n 2, 1) := by decide +kernel
theorem dX2_markEach_15 : decode cX2_markEach 15 = .ok (.ishr, 1) := by decide +kernel
theorem dX2_markEach_16 : decode cX2_markEach 16 = .ok (.iconst 1, 1) := by decide +kernel
theorem dX2_markEach_17 : decode cX2_markEach 17 = .ok (.iand, 1) := by decide +kernel
theorem dX2_markEach_18 : decode cX2_markEach 18 = .ok (.iconst 1, 1) := by decide +kernel
theorem dX2_markEach_19 : decode cX2_markEach 19 = .ok (.if_icmp .ne 16, 3) := by decide +kernel
theorem dX2_markEach_22 : decode cX2_markEach 22 = .ok (.aload_n 0, 1) := by decide +kernel
theorem dX2_markEach_23 : decode cX2_markEach 23 = .ok (.getfield 19, 3) := by decide +kernel
theorem dX2_markEach_26 : decode cX2_markEach 26 = .ok (.getfield 70, 3) := by decide +kernel
theorem dX2_markEach_29 : decode cX2_markEach 29 = .ok (.iload_n 2, 1) := by decide +kernel
theorem dX2_markEach_30 : decode cX2_markEach 30 = .ok (.bipush 10, 2) := by decide +kernel
theorem dX2_markEach_32 : decode cX2_markEach 32 = .ok (.iload_n 2, 1) := by decide +kernel
theorem dX2_markEach_33 : decode cX2_markEach 33 = .ok (.iadd, 1) := by decide +kernel
theorem dX2_markEach_34 : decode cX2_markEach 34 = .ok (.iastore, 1) := by decide +kernel
theorem dX2_markEach_35 : decode cX2_markEach 35 = .ok (.iinc 2 1, 3) := by decide +kernel
theorem dX2_markEach_38 : decode cX2_markEach 38 = .ok (.goto (-36), 3) := by decide +kernel
theorem dX2_markEach_41 : decode cX2_markEach 41 = .ok (.return_, 1) := by decide +kernel
theorem dX2_setsThatSaw_0 : decode cX2_setsThatSaw 0 = .ok (.aload_n 0, 1) := by decide +kernel
theorem dX2_setsThatSaw_1 : decode cX2_setsThatSaw 1 = .ok (.getfield 15, 3) := by decide +kernel
theorem dX2_setsThatSaw_4 : decode cX2_setsThatSaw 4 = .ok (.iconst 4, 1) := by decide +kernel
theorem dX2_setsThatSaw_5 : decode cX2_setsThatSaw 5 = .ok (.invokevirtual 44, 3) := by decide +kernel
theorem dX2_setsThatSaw_8 : decode cX2_setsThatSaw 8 = .ok (.istore_n 3, 1) := by decide +kernel
theorem dX2_setsThatSaw_9 : decode cX2_setsThatSaw 9 = .ok (.iconst 0, 1) := by decide +kernel
theorem dX2_setsThatSaw_10 : decode cX2_setsThatSaw 10 = .ok (.istore 4, 2) := by decide +kernel
theorem dX2_setsThatSaw_12 : decode cX2_setsThatSaw 12 = .ok (.iload_n 3, 1) := by decide +kernel
theorem dX2_setsThatSaw_13 : decode cX2_setsThatSaw 13 = .ok (.istore 5, 2) := by decide +kernel
theorem dX2_setsThatSaw_15 : decode cX2_setsThatSaw 15 = .ok (.iconst 0, 1) := by decide +kernel
theorem dX2_setsThatSaw_16 : decode cX2_setsThatSaw 16 = .ok (.istore 6, 2) := by decide +kernel
theorem dX2_setsThatSaw_18 : decode cX2_setsThatSaw 18 = .ok (.iconst 0, 1) := by decide +kernel
theorem dX2_setsThatSaw_19 : decode cX2_setsThatSaw 19 = .ok (.istore 7, 2) := by decide +kernel
theorem dX2_setsThatSaw_21 : decode cX2_setsThatSaw 21 = .ok (.iload 7, 2) := by decide +kernel
theorem dX2_setsThatSaw_23 : decode cX2_setsThatSaw 23 = .ok (.iload_n 3, 1) := by decide +kernel
theorem dX2_setsThatSaw_24 : decode cX2_setsThatSaw 24 = .ok (.if_icmp .gt 45, 3) := by decide +kernel
theorem dX2_setsThatSaw_27 : decode cX2_setsThatSaw 27 = .ok (.iload 7, 2) := by decide +kernel
theorem dX2_setsThatSaw_29 : decode cX2_setsThatSaw 29 = .ok (.iload_n 3, 1) := by decide +kernel
theorem dX2_setsThatSaw_30 : decode cX2_setsThatSaw 30 = .ok (.iconst (-1), 1) := by decide +kernel
theorem dX2_setsThatSaw_31 : decode cX2_setsThatSaw 31 = .ok (.ixor, 1) := by decide +kernel
theorem dX2_setsThatSaw_32 : decode cX2_setsThatSaw 32 = .ok (.iand, 1) := by decide +kernel
theorem dX2_setsThatSaw_33 : decode cX2_setsThatSaw 33 = .ok (.ifCond .ne 30, 3) := by decide +kernel
theorem dX2_setsThatSaw_36 : decode cX2_setsThatSaw 36 = .ok (.aload_n 0, 1) := by decide +kernel
theorem dX2_setsThatSaw_37 : decode cX2_setsThatSaw 37 = .ok (.iload 7, 2) := by decide +kernel
theorem dX2_setsThatSaw_39 : decode cX2_setsThatSaw 39 = .ok (.invokevirtual 73, 3) := by decide +kernel
theorem dX2_setsThatSaw_42 : decode cX2_setsThatSaw 42 = .ok (.iload_n 1, 1) := by decide +kernel
theorem dX2_setsThatSaw_43 : decode cX2_setsThatSaw 43 = .ok (.if_icmp .ne 20, 3) := by decide +kernel
theorem dX2_setsThatSaw_46 : decode cX2_setsThatSaw 46 = .ok (.iinc 4 1, 3) := by decide +kernel
theorem dX2_setsThatSaw_49 : decode cX2_setsThatSaw 49 = .ok (.iload 5, 2) := by decide +kernel
theorem dX2_setsThatSaw_51 : decode cX2_setsThatSaw 51 = .ok (.iload 7, 2) := by decide +kernel
theorem dX2_setsThatSaw_53 : decode cX2_setsThatSaw 53 = .ok (.iand, 1) := by decide +kernel
theorem dX2_setsThatSaw_54 : decode cX2_setsThatSaw 54 = .ok (.istore 5, 2) := by decide +kernel
theorem dX2_setsThatSaw_56 : decode cX2_setsThatSaw 56 = .ok (.iload 6, 2) := by decide +kernel
theorem dX2_setsThatSaw_58 : decode cX2_setsThatSaw 58 = .ok (.iload 7, 2) := by decide +kernel
theorem dX2_setsThatSaw_60 : decode cX2_setsThatSaw 60 = .ok (.ior, 1) := by decide +kernel
theorem dX2_setsThatSaw_61 : decode cX2_setsThatSaw 61 = .ok (.istore 6, 2) := by decide +kernel
theorem dX2_setsThatSaw_63 : decode cX2_setsThatSaw 63 = .ok (.iinc 7 1, 3) := by decide +kernel
theorem dX2_setsThatSaw_66 : decode cX2_setsThatSaw 66 = .ok (.goto (-45), 3) := by decide +kernel
theorem dX2_setsThatSaw_69 : decode cX2_setsThatSaw 69 = .ok (.iload_n 2, 1) := by decide +kernel
theorem dX2_setsThatSaw_70 : decode cX2_setsThatSaw 70 = .ok (.ifCond .ne 6, 3) := by decide +kernel
theorem dX2_setsThatSaw_73 : decode cX2_setsThatSaw 73 = .ok (.iload 4, 2) := by decide +kernel
theorem dX2_setsThatSaw_75 : decode cX2_setsThatSaw 75 = .ok (.ireturn, 1) := by decide +kernel
theorem dX2_setsThatSaw_76 : decode cX2_setsThatSaw 76 = .ok (.iload 4, 2) := by decide +kernel
theorem dX2_setsThatSaw_78 : decode cX2_setsThatSaw 78 = .ok (.ifCond .ne 7, 3) := by decide +kernel
theorem dX2_setsThatSaw_81 : decode cX2_setsThatSaw 81 = .ok (.iconst 0, 1) := by decide +kernel
theorem dX2_setsThatSaw_82 : decode cX2_setsThatSaw 82 = .ok (.goto 15, 3) := by decide +kernel
theorem dX2_setsThatSaw_85 : decode cX2_setsThatSaw 85 = .ok (.iload_n 2, 1) := by decide +kernel
theorem dX2_setsThatSaw_86 : decode cX2_setsThatSaw 86 = .ok (.iconst 1, 1) := by decide +kernel
theorem dX2_setsThatSaw_87 : decode cX2_setsThatSaw 87 = .ok (.if_icmp .ne 8, 3) := by decide +kernel
theorem dX2_setsThatSaw_90 : decode cX2_setsThatSaw 90 = .ok (.iload 5, 2) := by decide +kernel
theorem dX2_setsThatSaw_92 : decode cX2_setsThatSaw 92 = .ok (.goto 5, 3) := by decide +kernel
theorem dX2_setsThatSaw_95 : decode cX2_setsThatSaw 95 = .ok (.iload 6, 2) := by decide +kernel
theorem dX2_setsThatSaw_97 : decode cX2_setsThatSaw 97 = .ok (.ireturn, 1) := by decide +kernel
theorem dX2_seenBy_0 : decode cX2_seenBy 0 = .ok (.iconst 0, 1) := by decide +kernel
theorem dX2_seenBy_1 : decode cX2_seenBy 1 = .ok (.istore_n 2, 1) := by decide +kernel
theorem dX2_seenBy_2 : decode cX2_seenBy 2 = .ok (.iconst 0, 1) := by decide +kernel
theorem dX2_seenBy_3 : decode cX2_seenBy 3 = .ok (.istore_n 3, 1) := by decide +kernel
theorem dX2_seenBy_4 : decode cX2_seenBy 4 = .ok (.iload_n 3, 1) := by decide +kernel
theorem dX2_seenBy_5 : decode cX2_seenBy 5 = .ok (.aload_n 0, 1) := by decide +kernel
theorem dX2_seenBy_6 : decode cX2_seenBy 6 = .ok (.getfield 15, 3) := by decide +kernel
theorem dX2_seenBy_9 : decode cX2_seenBy 9 = .ok (.getfield 40, 3) := by decide +kernel
theorem dX2_seenBy_12 : decode cX2_seenBy 12 = .ok (.if_icmp .ge 34, 3) := by decide +kernel
theorem dX2_seenBy_15 : decode cX2_seenBy 15 = .ok (.iload_n 2, 1) := by decide +kernel
theorem dX2_seenBy_16 : decode cX2_seenBy 16 = .ok (.iload_n 1, 1) := by decide +kernel
theorem dX2_seenBy_17 : decode cX2_seenBy 17 = .ok (.iload_n 3, 1) := by decide +kernel
theorem dX2_seenBy_18 : decode cX2_seenBy 18 = .ok (.ishr, 1) := by decide +kernel
theorem dX2_seenBy_19 : decode cX2_seenBy 19 = .ok (.iconst 1, 1) := by decide +kernel
theorem dX2_seenBy_20 : decode cX2_seenBy 20 = .ok (.iand, 1) := by decide +kernel
theorem dX2_seenBy_21 : decode cX2_seenBy 21 = .ok (.iconst 1, 1) := by decide +kernel
theorem dX2_seenBy_22 : decode cX2_seenBy 22 = .ok (.if_icmp .ne 15, 3) := by decide +kernel
theorem dX2_seenBy_25 : decode cX2_seenBy 25 = .ok (.aload_n 0, 1) := by decide +kernel
theorem dX2_seenBy_26 : decode cX2_seenBy 26 = .ok (.getfield 15, 3) := by decide +kernel
theorem dX2_seenBy_29 : decode cX2_seenBy 29 = .ok (.getfield 76, 3) := by decide +kernel
theorem dX2_seenBy_32 : decode cX2_seenBy 32 = .ok (.iload_n 3, 1) := by decide +kernel
theorem dX2_seenBy_33 : decode cX2_seenBy 33 = .ok (.iaload, 1) := by decide +kernel
theorem dX2_seenBy_34 : decode cX2_seenBy 34 = .ok (.goto 4, 3) := by decide +kernel
theorem dX2_seenBy_37 : decode cX2_seenBy 37 = .ok (.iconst 0, 1) := by decide +kernel
theorem dX2_seenBy_38 : decode cX2_seenBy 38 = .ok (.iadd, 1) := by decide +kernel
theorem dX2_seenBy_39 : decode cX2_seenBy 39 = .ok (.istore_n 2, 1) := by decide +kernel
theorem dX2_seenBy_40 : decode cX2_seenBy 40 = .ok (.iinc 3 1, 3) := by decide +kernel
theorem dX2_seenBy_43 : decode cX2_seenBy 43 = .ok (.goto (-39), 3) := by decide +kernel
theorem dX2_seenBy_46 : decode cX2_seenBy 46 = .ok (.iload_n 2, 1) := by decide +kernel
theorem dX2_seenBy_47 : decode cX2_seenBy 47 = .ok (.ireturn, 1) := by decide +kernel
theorem dX2_outcomeOfTurns_0 : decode cX2_outcomeOfTurns 0 = .ok (.iload_n 1, 1) := by decide +kernel
theorem dX2_outcomeOfTurns_1 : decode cX2_outcomeOfTurns 1 = .ok (.ifCond .lt 8, 3) := by decide +kernel
theorem dX2_outcomeOfTurns_4 : decode cX2_outcomeOfTurns 4 = .ok (.iload_n 1, 1) := by decide +kernel
theorem dX2_outcomeOfTurns_5 : decode cX2_outcomeOfTurns 5 = .ok (.iconst 4, 1) := by decide +kernel
theorem dX2_outcomeOfTurns_6 : decode cX2_outcomeOfTurns 6 = .ok (.if_icmp .le 6, 3) := by decide +kernel
theorem dX2_outcomeOfTurns_9 : decode cX2_outcomeOfTurns 9 = .ok (.ldc 39, 2) := by decide +kernel
theorem dX2_outcomeOfTurns_11 : decode cX2_outcomeOfTurns 11 = .ok (.ireturn, 1) := by decide +kernel
theorem dX2_outcomeOfTurns_12 : decode cX2_outcomeOfTurns 12 = .ok (.iconst 0, 1) := by decide +kernel
theorem dX2_outcomeOfTurns_13 : decode cX2_outcomeOfTurns 13 = .ok (.istore_n 3, 1) := by decide +kernel
theorem dX2_outcomeOfTurns_14 : decode cX2_outcomeOfTurns 14 = .ok (.iload_n 3, 1) := by decide +kernel
theorem dX2_outcomeOfTurns_15 : decode cX2_outcomeOfTurns 15 = .ok (.iload_n 1, 1) := by decide +kernel
theorem dX2_outcomeOfTurns_16 : decode cX2_outcomeOfTurns 16 = .ok (.if_icmp .gt 51, 3) := by decide +kernel
theorem dX2_outcomeOfTurns_19 : decode cX2_outcomeOfTurns 19 = .ok (.aload_n 0, 1) := by decide +kernel
theorem dX2_outcomeOfTurns_20 : decode cX2_outcomeOfTurns 20 = .ok (.getfield 19, 3) := by decide +kernel
theorem dX2_outcomeOfTurns_23 : decode cX2_outcomeOfTurns 23 = .ok (.aload_n 0, 1) := by decide +kernel
theorem dX2_outcomeOfTurns_24 : decode cX2_outcomeOfTurns 24 = .ok (.getfield 15, 3) := by decide +kernel
theorem dX2_outcomeOfTurns_27 : decode cX2_outcomeOfTurns 27 = .ok (.invokevirtual 22, 3) := by decide +kernel
theorem dX2_outcomeOfTurns_30 : decode cX2_outcomeOfTurns 30 = .ok (.aload_n 0, 1) := by decide +kernel
theorem dX2_outcomeOfTurns_31 : decode cX2_outcomeOfTurns 31 = .ok (.getfield 19, 3) := by decide +kernel
theorem dX2_outcomeOfTurns_34 : decode cX2_outcomeOfTurns 34 = .ok (.iload_n 3, 1) := by decide +kernel
theorem dX2_outcomeOfTurns_35 : decode cX2_outcomeOfTurns 35 = .ok (.iload_n 1, 1) := by decide +kernel
theorem dX2_outcomeOfTurns_36 : decode cX2_outcomeOfTurns 36 = .ok (.iconst 2, 1) := by decide +kernel
theorem dX2_outcomeOfTurns_37 : decode cX2_outcomeOfTurns 37 = .ok (.idiv, 1) := by decide +kernel
theorem dX2_outcomeOfTurns_38 : decode cX2_outcomeOfTurns 38 = .ok (.isub, 1) := by decide +kernel
theorem dX2_outcomeOfTurns_39 : decode cX2_outcomeOfTurns 39 = .ok (.invokevirtual 79, 3) := by decide +kernel
theorem dX2_outcomeOfTurns_42 : decode cX2_outcomeOfTurns 42 = .ok (.aload_n 0, 1) := by decide +kernel
theorem dX2_outcomeOfTurns_43 : decode cX2_outcomeOfTurns 43 = .ok (.getfield 11, 3) := by decide +kernel
theorem dX2_outcomeOfTurns_46 : decode cX2_outcomeOfTurns 46 = .ok (.iload_n 3, 1) := by decide +kernel
theorem dX2_outcomeOfTurns_47 : decode cX2_outcomeOfTurns 47 = .ok (.aload_n 0, 1) := by decide +kernel
theorem dX2_outcomeOfTurns_48 : decode cX2_outcomeOfTurns 48 = .ok (.iload_n 2, 1) := by decide +kernel
theorem dX2_outcomeOfTurns_49 : decode cX2_outcomeOfTurns 49 = .ok (.invokevirtual 28, 3) := by decide +kernel
theorem dX2_outcomeOfTurns_52 : decode cX2_outcomeOfTurns 52 = .ok (.bipush 7, 2) := by decide +kernel
theorem dX2_outcomeOfTurns_54 : decode cX2_outcomeOfTurns 54 = .ok (.invokevirtual 44, 3) := by decide +kernel
theorem dX2_outcomeOfTurns_57 : decode cX2_outcomeOfTurns 57 = .ok (.invokestatic 61, 3) := by decide +kernel
theorem dX2_outcomeOfTurns_60 : decode cX2_outcomeOfTurns 60 = .ok (.iastore, 1) := by decide +kernel
theorem dX2_outcomeOfTurns_61 : decode cX2_outcomeOfTurns 61 = .ok (.iinc 3 1, 3) := by decide +kernel
theorem dX2_outcomeOfTurns_64 : decode cX2_outcomeOfTurns 64 = .ok (.goto (-50), 3) := by decide +kernel
theorem dX2_outcomeOfTurns_67 : decode cX2_outcomeOfTurns 67 = .ok (.iload_n 1, 1) := by decide +kernel
theorem dX2_outcomeOfTurns_68 : decode cX2_outcomeOfTurns 68 = .ok (.iconst 1, 1) := by decide +kernel
theorem dX2_outcomeOfTurns_69 : decode cX2_outcomeOfTurns 69 = .ok (.isub, 1) := by decide +kernel
theorem dX2_outcomeOfTurns_70 : decode cX2_outcomeOfTurns 70 = .ok (.istore_n 3, 1) := by decide +kernel
theorem dX2_outcomeOfTurns_71 : decode cX2_outcomeOfTurns 71 = .ok (.iload_n 3, 1) := by decide +kernel
theorem dX2_outcomeOfTurns_72 : decode cX2_outcomeOfTurns 72 = .ok (.ifCond .lt 98, 3) := by decide +kernel
theorem dX2_outcomeOfTurns_75 : decode cX2_outcomeOfTurns 75 = .ok (.iload_n 3, 1) := by decide +kernel
theorem dX2_outcomeOfTurns_76 : decode cX2_outcomeOfTurns 76 = .ok (.iconst 1, 1) := by decide +kernel
theorem dX2_outcomeOfTurns_77 : decode cX2_outcomeOfTurns 77 = .ok (.iand, 1) := by decide +kernel
theorem dX2_outcomeOfTurns_78 : decode cX2_outcomeOfTurns 78 = .ok (.ifCond .ne 7, 3) := by decide +kernel
theorem dX2_outcomeOfTurns_81 : decode cX2_outcomeOfTurns 81 = .ok (.iconst 1, 1) := by decide +kernel
theorem dX2_outcomeOfTurns_82 : decode cX2_outcomeOfTurns 82 = .ok (.goto 4, 3) := by decide +kernel
theorem dX2_outcomeOfTurns_85 : decode cX2_outcomeOfTurns 85 = .ok (.iconst 0, 1) := by decide +kernel
theorem dX2_outcomeOfTurns_86 : decode cX2_outcomeOfTurns 86 = .ok (.istore 4, 2) := by decide +kernel
theorem dX2_outcomeOfTurns_88 : decode cX2_outcomeOfTurns 88 = .ok (.iconst 0, 1) := by decide +kernel
theorem dX2_outcomeOfTurns_89 : decode cX2_outcomeOfTurns 89 = .ok (.istore 5, 2) := by decide +kernel
theorem dX2_outcomeOfTurns_91 : decode cX2_outcomeOfTurns 91 = .ok (.iload 5, 2) := by decide +kernel
theorem dX2_outcomeOfTurns_93 : decode cX2_outcomeOfTurns 93 = .ok (.iload_n 3, 1) := by decide +kernel
theorem dX2_outcomeOfTurns_94 : decode cX2_outcomeOfTurns 94 = .ok (.if_icmp .gt 70, 3) := by decide +kernel
theorem dX2_outcomeOfTurns_97 : decode cX2_outcomeOfTurns 97 = .ok (.aload_n 0, 1) := by decide +kernel
theorem dX2_outcomeOfTurns_98 : decode cX2_outcomeOfTurns 98 = .ok (.getfield 11, 3) := by decide +kernel
theorem dX2_outcomeOfTurns_101 : decode cX2_outcomeOfTurns 101 = .ok (.iload 5, 2) := by decide +kernel
theorem dX2_outcomeOfTurns_103 : decode cX2_outcomeOfTurns 103 = .ok (.iaload, 1) := by decide +kernel
theorem dX2_outcomeOfTurns_104 : decode cX2_outcomeOfTurns 104 = .ok (.aload_n 0, 1) := by decide +kernel
theorem dX2_outcomeOfTurns_105 : decode cX2_outcomeOfTurns 105 = .ok (.getfield 11, 3) := by decide +kernel
theorem dX2_outcomeOfTurns_108 : decode cX2_outcomeOfTurns 108 = .ok (.iload 5, 2) := by decide +kernel
theorem dX2_outcomeOfTurns_110 : decode cX2_outcomeOfTurns 110 = .ok (.iconst 1, 1) := by decide +kernel
theorem dX2_outcomeOfTurns_111 : decode cX2_outcomeOfTurns 111 = .ok (.iadd, 1) := by decide +kernel
theorem dX2_outcomeOfTurns_112 : decode cX2_outcomeOfTurns 112 = .ok (.iaload, 1) := by decide +kernel
theorem dX2_outcomeOfTurns_113 : decode cX2_outcomeOfTurns 113 = .ok (.invokestatic 82, 3) := by decide +kernel
theorem dX2_outcomeOfTurns_116 : decode cX2_outcomeOfTurns 116 = .ok (.istore 6, 2) := by decide +kernel
theorem dX2_outcomeOfTurns_118 : decode cX2_outcomeOfTurns 118 = .ok (.aload_n 0, 1) := by decide +kernel
theorem dX2_outcomeOfTurns_119 : decode cX2_outcomeOfTurns 119 = .ok (.getfield 11, 3) := by decide +kernel
theorem dX2_outcomeOfTurns_122 : decode cX2_outcomeOfTurns 122 = .ok (.iload 5, 2) := by decide +kernel
theorem dX2_outcomeOfTurns_124 : decode cX2_outcomeOfTurns 124 = .ok (.iaload, 1) := by decide +kernel
theorem dX2_outcomeOfTurns_125 : decode cX2_outcomeOfTurns 125 = .ok (.aload_n 0, 1) := by decide +kernel
theorem dX2_outcomeOfTurns_126 : decode cX2_outcomeOfTurns 126 = .ok (.getfield 11, 3) := by decide +kernel
theorem dX2_outcomeOfTurns_129 : decode cX2_outcomeOfTurns 129 = .ok (.iload 5, 2) := by decide +kernel
theorem dX2_outcomeOfTurns_131 : decode cX2_outcomeOfTurns 131 = .ok (.iconst 1, 1) := by decide +kernel
theorem dX2_outcomeOfTurns_132 : decode cX2_outcomeOfTurns 132 = .ok (.iadd, 1) := by decide +kernel
theorem dX2_outcomeOfTurns_133 : decode cX2_outcomeOfTurns 133 = .ok (.iaload, 1) := by decide +kernel
theorem dX2_outcomeOfTurns_134 : decode cX2_outcomeOfTurns 134 = .ok (.invokestatic 88, 3) := by decide +kernel
theorem dX2_outcomeOfTurns_137 : decode cX2_outcomeOfTurns 137 = .ok (.istore 7, 2) := by decide +kernel
theorem dX2_outcomeOfTurns_139 : decode cX2_outcomeOfTurns 139 = .ok (.aload_n 0, 1) := by decide +kernel
theorem dX2_outcomeOfTurns_140 : decode cX2_outcomeOfTurns 140 = .ok (.getfield 11, 3) := by decide +kernel
theorem dX2_outcomeOfTurns_143 : decode cX2_outcomeOfTurns 143 = .ok (.iload 5, 2) := by decide +kernel
theorem dX2_outcomeOfTurns_145 : decode cX2_outcomeOfTurns 145 = .ok (.iload 4, 2) := by decide +kernel
theorem dX2_outcomeOfTurns_147 : decode cX2_outcomeOfTurns 147 = .ok (.ifCond .eq 8, 3) := by decide +kernel
theorem dX2_outcomeOfTurns_150 : decode cX2_outcomeOfTurns 150 = .ok (.iload 6, 2) := by decide +kernel
theorem dX2_outcomeOfTurns_152 : decode cX2_outcomeOfTurns 152 = .ok (.goto 5, 3) := by decide +kernel
theorem dX2_outcomeOfTurns_155 : decode cX2_outcomeOfTurns 155 = .ok (.iload 7, 2) := by decide +kernel
theorem dX2_outcomeOfTurns_157 : decode cX2_outcomeOfTurns 157 = .ok (.iastore, 1) := by decide +kernel
theorem dX2_outcomeOfTurns_158 : decode cX2_outcomeOfTurns 158 = .ok (.iinc 5 1, 3) := by decide +kernel
theorem dX2_outcomeOfTurns_161 : decode cX2_outcomeOfTurns 161 = .ok (.goto (-70), 3) := by decide +kernel
theorem dX2_outcomeOfTurns_164 : decode cX2_outcomeOfTurns 164 = .ok (.iinc 3 (-1), 3) := by decide +kernel
theorem dX2_outcomeOfTurns_167 : decode cX2_outcomeOfTurns 167 = .ok (.goto (-96), 3) := by decide +kernel
theorem dX2_outcomeOfTurns_170 : decode cX2_outcomeOfTurns 170 = .ok (.aload_n 0, 1) := by decide +kernel
theorem dX2_outcomeOfTurns_171 : decode cX2_outcomeOfTurns 171 = .ok (.getfield 11, 3) := by decide +kernel
theorem dX2_outcomeOfTurns_174 : decode cX2_outcomeOfTurns 174 = .ok (.iconst 0, 1) := by decide +kernel
theorem dX2_outcomeOfTurns_175 : decode cX2_outcomeOfTurns 175 = .ok (.iaload, 1) := by decide +kernel
theorem dX2_outcomeOfTurns_176 : decode cX2_outcomeOfTurns 176 = .ok (.ireturn, 1) := by decide +kernel
theorem dX2_kindsThatFit_0 : decode cX2_kindsThatFit 0 = .ok (.iconst 0, 1) := by decide +kernel
theorem dX2_kindsThatFit_1 : decode cX2_kindsThatFit 1 = .ok (.istore 6, 2) := by decide +kernel
theorem dX2_kindsThatFit_3 : decode cX2_kindsThatFit 3 = .ok (.iconst 1, 1) := by decide +kernel
theorem dX2_kindsThatFit_4 : decode cX2_kindsThatFit 4 = .ok (.istore 7, 2) := by decide +kernel
theorem dX2_kindsThatFit_6 : decode cX2_kindsThatFit 6 = .ok (.iload 7, 2) := by decide +kernel
theorem dX2_kindsThatFit_8 : decode cX2_kindsThatFit 8 = .ok (.iconst 5, 1) := by decide +kernel
theorem dX2_kindsThatFit_9 : decode cX2_kindsThatFit 9 = .ok (.if_icmp .gt 57, 3) := by decide +kernel
theorem dX2_kindsThatFit_12 : decode cX2_kindsThatFit 12 = .ok (.aload_n 0, 1) := by decide +kernel
theorem dX2_kindsThatFit_13 : decode cX2_kindsThatFit 13 = .ok (.getfield 19, 3) := by decide +kernel
theorem dX2_kindsThatFit_16 : decode cX2_kindsThatFit 16 = .ok (.aload_n 0, 1) := by decide +kernel
theorem dX2_kindsThatFit_17 : decode cX2_kindsThatFit 17 = .ok (.getfield 15, 3) := by decide +kernel
theorem dX2_kindsThatFit_20 : decode cX2_kindsThatFit 20 = .ok (.invokevirtual 22, 3) := by decide +kernel
theorem dX2_kindsThatFit_23 : decode cX2_kindsThatFit 23 = .ok (.aload_n 0, 1) := by decide +kernel
theorem dX2_kindsThatFit_24 : decode cX2_kindsThatFit 24 = .ok (.getfield 19, 3) := by decide +kernel
theorem dX2_kindsThatFit_27 : decode cX2_kindsThatFit 27 = .ok (.getfield 91, 3) := by decide +kernel
theorem dX2_kindsThatFit_30 : decode cX2_kindsThatFit 30 = .ok (.iload_n 1, 1) := by decide +kernel
theorem dX2_kindsThatFit_31 : decode cX2_kindsThatFit 31 = .ok (.iload 7, 2) := by decide +kernel
theorem dX2_kindsThatFit_33 : decode cX2_kindsThatFit 33 = .ok (.iastore, 1) := by decide +kernel
theorem dX2_kindsThatFit_34 : decode cX2_kindsThatFit 34 = .ok (.iload 6, 2) := by decide +kernel
theorem dX2_kindsThatFit_36 : decode cX2_kindsThatFit 36 = .ok (.aload_n 0, 1) := by decide +kernel
theorem dX2_kindsThatFit_37 : decode cX2_kindsThatFit 37 = .ok (.iload_n 2, 1) := by decide +kernel
theorem dX2_kindsThatFit_38 : decode cX2_kindsThatFit 38 = .ok (.aload_n 3, 1) := by decide +kernel
theorem dX2_kindsThatFit_39 : decode cX2_kindsThatFit 39 = .ok (.iload 4, 2) := by decide +kernel
theorem dX2_kindsThatFit_41 : decode cX2_kindsThatFit 41 = .ok (.iload 5, 2) := by decide +kernel
theorem dX2_kindsThatFit_43 : decode cX2_kindsThatFit 43 = .ok (.invokevirtual 94, 3) := by decide +kernel
theorem dX2_kindsThatFit_46 : decode cX2_kindsThatFit 46 = .ok (.ifCond .eq 10, 3) := by decide +kernel
theorem dX2_kindsThatFit_49 : decode cX2_kindsThatFit 49 = .ok (.iconst 1, 1) := by decide +kernel
theorem dX2_kindsThatFit_50 : decode cX2_kindsThatFit 50 = .ok (.iload 7, 2) := by decide +kernel
theorem dX2_kindsThatFit_52 : decode cX2_kindsThatFit 52 = .ok (.ishl, 1) := by decide +kernel
theorem dX2_kindsThatFit_53 : decode cX2_kindsThatFit 53 = .ok (.goto 4, 3) := by decide +kernel
theorem dX2_kindsThatFit_56 : decode cX2_kindsThatFit 56 = .ok (.iconst 0, 1) := by decide +kernel
theorem dX2_kindsThatFit_57 : decode cX2_kindsThatFit 57 = .ok (.ior, 1) := by decide +kernel
theorem dX2_kindsThatFit_58 : decode cX2_kindsThatFit 58 = .ok (.istore 6, 2) := by decide +kernel
theorem dX2_kindsThatFit_60 : decode cX2_kindsThatFit 60 = .ok (.iinc 7 1, 3) := by decide +kernel
theorem dX2_kindsThatFit_63 : decode cX2_kindsThatFit 63 = .ok (.goto (-57), 3) := by decide +kernel
theorem dX2_kindsThatFit_66 : decode cX2_kindsThatFit 66 = .ok (.iload 6, 2) := by decide +kernel
theorem dX2_kindsThatFit_68 : decode cX2_kindsThatFit 68 = .ok (.ireturn, 1) := by decide +kernel
theorem dX2_standsThatFit_0 : decode cX2_standsThatFit 0 = .ok (.iconst 0, 1) := by decide +kernel
theorem dX2_standsThatFit_1 : decode cX2_standsThatFit 1 = .ok (.istore 6, 2) := by decide +kernel
theorem dX2_standsThatFit_3 : decode cX2_standsThatFit 3 = .ok (.iconst 0, 1) := by decide +kernel
theorem dX2_standsThatFit_4 : decode cX2_standsThatFit 4 = .ok (.istore 7, 2) := by decide +kernel
theorem dX2_standsThatFit_6 : decode cX2_standsThatFit 6 = .ok (.iload 7, 2) := by decide +kernel
theorem dX2_standsThatFit_8 : decode cX2_standsThatFit 8 = .ok (.aload_n 0, 1) := by decide +kernel
theorem dX2_standsThatFit_9 : decode cX2_standsThatFit 9 = .ok (.getfield 15, 3) := by decide +kernel
theorem dX2_standsThatFit_12 : decode cX2_standsThatFit 12 = .ok (.getfield 48, 3) := by decide +kernel
theorem dX2_standsThatFit_15 : decode cX2_standsThatFit 15 = .ok (.if_icmp .ge 57, 3) := by decide +kernel
theorem dX2_standsThatFit_18 : decode cX2_standsThatFit 18 = .ok (.aload_n 0, 1) := by decide +kernel
theorem dX2_standsThatFit_19 : decode cX2_standsThatFit 19 = .ok (.getfield 19, 3) := by decide +kernel
theorem dX2_standsThatFit_22 : decode cX2_standsThatFit 22 = .ok (.aload_n 0, 1) := by decide +kernel
theorem dX2_standsThatFit_23 : decode cX2_standsThatFit 23 = .ok (.getfield 15, 3) := by decide +kernel
theorem dX2_standsThatFit_26 : decode cX2_standsThatFit 26 = .ok (.invokevirtual 22, 3) := by decide +kernel
theorem dX2_standsThatFit_29 : decode cX2_standsThatFit 29 = .ok (.aload_n 0, 1) := by decide +kernel
theorem dX2_standsThatFit_30 : decode cX2_standsThatFit 30 = .ok (.getfield 19, 3) := by decide +kernel
theorem dX2_standsThatFit_33 : decode cX2_standsThatFit 33 = .ok (.getfield 55, 3) := by decide +kernel
theorem dX2_standsThatFit_36 : decode cX2_standsThatFit 36 = .ok (.iload_n 1, 1) := by decide +kernel
theorem dX2_standsThatFit_37 : decode cX2_standsThatFit 37 = .ok (.iload 7, 2) := by decide +kernel
theorem dX2_standsThatFit_39 : decode cX2_standsThatFit 39 = .ok (.iastore, 1) := by decide +kernel
theorem dX2_standsThatFit_40 : decode cX2_standsThatFit 40 = .ok (.iload 6, 2) := by decide +kernel
theorem dX2_standsThatFit_42 : decode cX2_standsThatFit 42 = .ok (.aload_n 0, 1) := by decide +kernel
theorem dX2_standsThatFit_43 : decode cX2_standsThatFit 43 = .ok (.iload_n 2, 1) := by decide +kernel
theorem dX2_standsThatFit_44 : decode cX2_standsThatFit 44 = .ok (.aload_n 3, 1) := by decide +kernel
theorem dX2_standsThatFit_45 : decode cX2_standsThatFit 45 = .ok (.iload 4, 2) := by decide +kernel
theorem dX2_standsThatFit_47 : decode cX2_standsThatFit 47 = .ok (.iload 5, 2) := by decide +kernel
theorem dX2_standsThatFit_49 : decode cX2_standsThatFit 49 = .ok (.invokevirtual 94, 3) := by decide +kernel
theorem dX2_standsThatFit_52 : decode cX2_standsThatFit 52 = .ok (.ifCond .eq 10, 3) := by decide +kernel
theorem dX2_standsThatFit_55 : decode cX2_standsThatFit 55 = .ok (.iconst 1, 1) := by decide +kernel
theorem dX2_standsThatFit_56 : decode cX2_standsThatFit 56 = .ok (.iload 7, 2) := by decide +kernel
theorem dX2_standsThatFit_58 : decode cX2_standsThatFit 58 = .ok (.ishl, 1) := by decide +kernel
theorem dX2_standsThatFit_59 : decode cX2_standsThatFit 59 = .ok (.goto 4, 3) := by decide +kernel
theorem dX2_standsThatFit_62 : decode cX2_standsThatFit 62 = .ok (.iconst 0, 1) := by decide +kernel
theorem dX2_standsThatFit_63 : decode cX2_standsThatFit 63 = .ok (.ior, 1) := by decide +kernel
theorem dX2_standsThatFit_64 : decode cX2_standsThatFit 64 = .ok (.istore 6, 2) := by decide +kernel
theorem dX2_standsThatFit_66 : decode cX2_standsThatFit 66 = .ok (.iinc 7 1, 3) := by decide +kernel
theorem dX2_standsThatFit_69 : decode cX2_standsThatFit 69 = .ok (.goto (-63), 3) := by decide +kernel
theorem dX2_standsThatFit_72 : decode cX2_standsThatFit 72 = .ok (.iload 6, 2) := by decide +kernel
theorem dX2_standsThatFit_74 : decode cX2_standsThatFit 74 = .ok (.ireturn, 1) := by decide +kernel
theorem dX2_coloursThatFit_0 : decode cX2_coloursThatFit 0 = .ok (.iconst 0, 1) := by decide +kernel
theorem dX2_coloursThatFit_1 : decode cX2_coloursThatFit 1 = .ok (.istore 5, 2) := by decide +kernel
theorem dX2_coloursThatFit_3 : decode cX2_coloursThatFit 3 = .ok (.iconst 0, 1) := by decide +kernel
theorem dX2_coloursThatFit_4 : decode cX2_coloursThatFit 4 = .ok (.istore 6, 2) := by decide +kernel
theorem dX2_coloursThatFit_6 : decode cX2_coloursThatFit 6 = .ok (.iload 6, 2) := by decide +kernel
theorem dX2_coloursThatFit_8 : decode cX2_coloursThatFit 8 = .ok (.iconst 4, 1) := by decide +kernel
theorem dX2_coloursThatFit_9 : decode cX2_coloursThatFit 9 = .ok (.if_icmp .ge 56, 3) := by decide +kernel
theorem dX2_coloursThatFit_12 : decode cX2_coloursThatFit 12 = .ok (.aload_n 0, 1) := by decide +kernel
theorem dX2_coloursThatFit_13 : decode cX2_coloursThatFit 13 = .ok (.getfield 19, 3) := by decide +kernel
theorem dX2_coloursThatFit_16 : decode cX2_coloursThatFit 16 = .ok (.aload_n 0, 1) := by decide +kernel
theorem dX2_coloursThatFit_17 : decode cX2_coloursThatFit 17 = .ok (.getfield 15, 3) := by decide +kernel
theorem dX2_coloursThatFit_20 : decode cX2_coloursThatFit 20 = .ok (.invokevirtual 22, 3) := by decide +kernel
theorem dX2_coloursThatFit_23 : decode cX2_coloursThatFit 23 = .ok (.aload_n 0, 1) := by decide +kernel
theorem dX2_coloursThatFit_24 : decode cX2_coloursThatFit 24 = .ok (.getfield 19, 3) := by decide +kernel
theorem dX2_coloursThatFit_27 : decode cX2_coloursThatFit 27 = .ok (.getfield 70, 3) := by decide +kernel
theorem dX2_coloursThatFit_30 : decode cX2_coloursThatFit 30 = .ok (.iload_n 1, 1) := by decide +kernel
theorem dX2_coloursThatFit_31 : decode cX2_coloursThatFit 31 = .ok (.iload 6, 2) := by decide +kernel
theorem dX2_coloursThatFit_33 : decode cX2_coloursThatFit 33 = .ok (.iastore, 1) := by decide +kernel
theorem dX2_coloursThatFit_34 : decode cX2_coloursThatFit 34 = .ok (.iload 5, 2) := by decide +kernel
theorem dX2_coloursThatFit_36 : decode cX2_coloursThatFit 36 = .ok (.aload_n 0, 1) := by decide +kernel
theorem dX2_coloursThatFit_37 : decode cX2_coloursThatFit 37 = .ok (.iload_n 1, 1) := by decide +kernel
theorem dX2_coloursThatFit_38 : decode cX2_coloursThatFit 38 = .ok (.aload_n 2, 1) := by decide +kernel
theorem dX2_coloursThatFit_39 : decode cX2_coloursThatFit 39 = .ok (.iload_n 3, 1) := by decide +kernel
theorem dX2_coloursThatFit_40 : decode cX2_coloursThatFit 40 = .ok (.iload 4, 2) := by decide +kernel
theorem dX2_coloursThatFit_42 : decode cX2_coloursThatFit 42 = .ok (.invokevirtual 94, 3) := by decide +kernel
theorem dX2_coloursThatFit_45 : decode cX2_coloursThatFit 45 = .ok (.ifCond .eq 10, 3) := by decide +kernel
theorem dX2_coloursThatFit_48 : decode cX2_coloursThatFit 48 = .ok (.iconst 1, 1) := by decide +kernel
theorem dX2_coloursThatFit_49 : decode cX2_coloursThatFit 49 = .ok (.iload 6, 2) := by decide +kernel
theorem dX2_coloursThatFit_51 : decode cX2_coloursThatFit 51 = .ok (.ishl, 1) := by decide +kernel
theorem dX2_coloursThatFit_52 : decode cX2_coloursThatFit 52 = .ok (.goto 4, 3) := by decide +kernel
theorem dX2_coloursThatFit_55 : decode cX2_coloursThatFit 55 = .ok (.iconst 0, 1) := by decide +kernel
theorem dX2_coloursThatFit_56 : decode cX2_coloursThatFit 56 = .ok (.ior, 1) := by decide +kernel
theorem dX2_coloursThatFit_57 : decode cX2_coloursThatFit 57 = .ok (.istore 5, 2) := by decide +kernel
theorem dX2_coloursThatFit_59 : decode cX2_coloursThatFit 59 = .ok (.iinc 6 1, 3) := by decide +kernel
theorem dX2_coloursThatFit_62 : decode cX2_coloursThatFit 62 = .ok (.goto (-56), 3) := by decide +kernel
theorem dX2_coloursThatFit_65 : decode cX2_coloursThatFit 65 = .ok (.iload 5, 2) := by decide +kernel
theorem dX2_coloursThatFit_67 : decode cX2_coloursThatFit 67 = .ok (.ireturn, 1) := by decide +kernel
theorem dX2_goesAsTold_0 : decode cX2_goesAsTold 0 = .ok (.iload_n 3, 1) := by decide +kernel
theorem dX2_goesAsTold_1 : decode cX2_goesAsTold 1 = .ok (.ifCond .lt 17, 3) := by decide +kernel
theorem dX2_goesAsTold_4 : decode cX2_goesAsTold 4 = .ok (.iload 4, 2) := by decide +kernel
theorem dX2_goesAsTold_6 : decode cX2_goesAsTold 6 = .ok (.ifCond .lt 12, 3) := by decide +kernel
theorem dX2_goesAsTold_9 : decode cX2_goesAsTold 9 = .ok (.iload_n 3, 1) := by decide +kernel
theorem dX2_goesAsTold_10 : decode cX2_goesAsTold 10 = .ok (.aload_n 2, 1) := by decide +kernel
theorem dX2_goesAsTold_11 : decode cX2_goesAsTold 11 = .ok (.arraylength, 1) := by decide +kernel
theorem dX2_goesAsTold_12 : decode cX2_goesAsTold 12 = .ok (.iload 4, 2) := by decide +kernel
theorem dX2_goesAsTold_14 : decode cX2_goesAsTold 14 = .ok (.isub, 1) := by decide +kernel
theorem dX2_goesAsTold_15 : decode cX2_goesAsTold 15 = .ok (.if_icmp .le 5, 3) := by decide +kernel
theorem dX2_goesAsTold_18 : decode cX2_goesAsTold 18 = .ok (.iconst 0, 1) := by decide +kernel
theorem dX2_goesAsTold_19 : decode cX2_goesAsTold 19 = .ok (.ireturn, 1) := by decide +kernel
theorem dX2_goesAsTold_20 : decode cX2_goesAsTold 20 = .ok (.iconst 0, 1) := by decide +kernel
theorem dX2_goesAsTold_21 : decode cX2_goesAsTold 21 = .ok (.istore 5, 2) := by decide +kernel
theorem dX2_goesAsTold_23 : decode cX2_goesAsTold 23 = .ok (.iload 5, 2) := by decide +kernel
theorem dX2_goesAsTold_25 : decode cX2_goesAsTold 25 = .ok (.iload 4, 2) := by decide +kernel
theorem dX2_goesAsTold_27 : decode cX2_goesAsTold 27 = .ok (.if_icmp .ge 35, 3) := by decide +kernel
theorem dX2_goesAsTold_30 : decode cX2_goesAsTold 30 = .ok (.aload_n 0, 1) := by decide +kernel
theorem dX2_goesAsTold_31 : decode cX2_goesAsTold 31 = .ok (.getfield 19, 3) := by decide +kernel
theorem dX2_goesAsTold_34 : decode cX2_goesAsTold 34 = .ok (.invokevirtual 32, 3) := by decide +kernel
theorem dX2_goesAsTold_37 : decode cX2_goesAsTold 37 = .ok (.aload_n 0, 1) := by decide +kernel
theorem dX2_goesAsTold_38 : decode cX2_goesAsTold 38 = .ok (.getfield 19, 3) := by decide +kernel
theorem dX2_goesAsTold_41 : decode cX2_goesAsTold 41 = .ok (.iload_n 1, 1) := by decide +kernel
theorem dX2_goesAsTold_42 : decode cX2_goesAsTold 42 = .ok (.invokevirtual 98, 3) := by decide +kernel
theorem dX2_goesAsTold_45 : decode cX2_goesAsTold 45 = .ok (.aload_n 2, 1) := by decide +kernel
theorem dX2_goesAsTold_46 : decode cX2_goesAsTold 46 = .ok (.iload_n 3, 1) := by decide +kernel
theorem dX2_goesAsTold_47 : decode cX2_goesAsTold 47 = .ok (.iload 5, 2) := by decide +kernel
theorem dX2_goesAsTold_49 : decode cX2_goesAsTold 49 = .ok (.iadd, 1) := by decide +kernel
theorem dX2_goesAsTold_50 : decode cX2_goesAsTold 50 = .ok (.iaload, 1) := by decide +kernel
theorem dX2_goesAsTold_51 : decode cX2_goesAsTold 51 = .ok (.if_icmp .eq 5, 3) := by decide +kernel
theorem dX2_goesAsTold_54 : decode cX2_goesAsTold 54 = .ok (.iconst 0, 1) := by decide +kernel
theorem dX2_goesAsTold_55 : decode cX2_goesAsTold 55 = .ok (.ireturn, 1) := by decide +kernel
theorem dX2_goesAsTold_56 : decode cX2_goesAsTold 56 = .ok (.iinc 5 1, 3) := by decide +kernel
theorem dX2_goesAsTold_59 : decode cX2_goesAsTold 59 = .ok (.goto (-36), 3) := by decide +kernel
theorem dX2_goesAsTold_62 : decode cX2_goesAsTold 62 = .ok (.iconst 1, 1) := by decide +kernel
theorem dX2_goesAsTold_63 : decode cX2_goesAsTold 63 = .ok (.ireturn, 1) := by decide +kernel
theorem dX2_likelyOnBelt_0 : decode cX2_likelyOnBelt 0 = .ok (.aload_n 0, 1) := by decide +kernel
theorem dX2_likelyOnBelt_1 : decode cX2_likelyOnBelt 1 = .ok (.getfield 15, 3) := by decide +kernel
theorem dX2_likelyOnBelt_4 : decode cX2_likelyOnBelt 4 = .ok (.iconst 4, 1) := by decide +kernel
theorem dX2_likelyOnBelt_5 : decode cX2_likelyOnBelt 5 = .ok (.invokevirtual 44, 3) := by decide +kernel
theorem dX2_likelyOnBelt_8 : decode cX2_likelyOnBelt 8 = .ok (.istore 5, 2) := by decide +kernel
theorem dX2_likelyOnBelt_10 : decode cX2_likelyOnBelt 10 = .ok (.lconst 0, 1) := by decide +kernel
theorem dX2_likelyOnBelt_11 : decode cX2_likelyOnBelt 11 = .ok (.lstore 6, 2) := by decide +kernel
theorem dX2_likelyOnBelt_13 : decode cX2_likelyOnBelt 13 = .ok (.lconst 0, 1) := by decide +kernel
theorem dX2_likelyOnBelt_14 : decode cX2_likelyOnBelt 14 = .ok (.lstore 8, 2) := by decide +kernel
theorem dX2_likelyOnBelt_16 : decode cX2_likelyOnBelt 16 = .ok (.iconst 0, 1) := by decide +kernel
theorem dX2_likelyOnBelt_17 : decode cX2_likelyOnBelt 17 = .ok (.istore 10, 2) := by decide +kernel
theorem dX2_likelyOnBelt_19 : decode cX2_likelyOnBelt 19 = .ok (.iload 10, 2) := by decide +kernel
theorem dX2_likelyOnBelt_21 : decode cX2_likelyOnBelt 21 = .ok (.iload 5, 2) := by decide +kernel
theorem dX2_likelyOnBelt_23 : decode cX2_likelyOnBelt 23 = .ok (.if_icmp .gt 96, 3) := by decide +kernel
theorem dX2_likelyOnBelt_26 : decode cX2_likelyOnBelt 26 = .ok (.iload 10, 2) := by decide +kernel
theorem dX2_likelyOnBelt_28 : decode cX2_likelyOnBelt 28 = .ok (.iload 5, 2) := by decide +kernel
theorem dX2_likelyOnBelt_30 : decode cX2_likelyOnBelt 30 = .ok (.iconst (-1), 1) := by decide +kernel
theorem dX2_likelyOnBelt_31 : decode cX2_likelyOnBelt 31 = .ok (.ixor, 1) := by decide +kernel
theorem dX2_likelyOnBelt_32 : decode cX2_likelyOnBelt 32 = .ok (.iand, 1) := by decide +kernel
theorem dX2_likelyOnBelt_33 : decode cX2_likelyOnBelt 33 = .ok (.ifCond .ne 80, 3) := by decide +kernel
theorem dX2_likelyOnBelt_36 : decode cX2_likelyOnBelt 36 = .ok (.iload_n 3, 1) := by decide +kernel
theorem dX2_likelyOnBelt_37 : decode cX2_likelyOnBelt 37 = .ok (.iload 10, 2) := by decide +kernel
theorem dX2_likelyOnBelt_39 : decode cX2_likelyOnBelt 39 = .ok (.invokestatic 61, 3) := by decide +kernel
theorem dX2_likelyOnBelt_42 : decode cX2_likelyOnBelt 42 = .ok (.invokestatic 101, 3) := by decide +kernel
theorem dX2_likelyOnBelt_45 : decode cX2_likelyOnBelt 45 = .ok (.bipush 10, 2) := by decide +kernel
theorem dX2_likelyOnBelt_47 : decode cX2_likelyOnBelt 47 = .ok (.iload_n 3, 1) := by decide +kernel
theorem dX2_likelyOnBelt_48 : decode cX2_likelyOnBelt 48 = .ok (.isub, 1) := by decide +kernel
theorem dX2_likelyOnBelt_49 : decode cX2_likelyOnBelt 49 = .ok (.iload 5, 2) := by decide +kernel
theorem dX2_likelyOnBelt_51 : decode cX2_likelyOnBelt 51 = .ok (.iload 10, 2) := by decide +kernel
theorem dX2_likelyOnBelt_53 : decode cX2_likelyOnBelt 53 = .ok (.isub, 1) := by decide +kernel
theorem dX2_likelyOnBelt_54 : decode cX2_likelyOnBelt 54 = .ok (.invokestatic 61, 3) := by decide +kernel
theorem dX2_likelyOnBelt_57 : decode cX2_likelyOnBelt 57 = .ok (.invokestatic 101, 3) := by decide +kernel
theorem dX2_likelyOnBelt_60 : decode cX2_likelyOnBelt 60 = .ok (.lmul, 1) := by decide +kernel
theorem dX2_likelyOnBelt_61 : decode cX2_likelyOnBelt 61 = .ok (.lstore 11, 2) := by decide +kernel
theorem dX2_likelyOnBelt_63 : decode cX2_likelyOnBelt 63 = .ok (.lload 8, 2) := by decide +kernel
theorem dX2_likelyOnBelt_65 : decode cX2_likelyOnBelt 65 = .ok (.lload 11, 2) := by decide +kernel
theorem dX2_likelyOnBelt_67 : decode cX2_likelyOnBelt 67 = .ok (.ladd, 1) := by decide +kernel
theorem dX2_likelyOnBelt_68 : decode cX2_likelyOnBelt 68 = .ok (.lstore 8, 2) := by decide +kernel
theorem dX2_likelyOnBelt_70 : decode cX2_likelyOnBelt 70 = .ok (.aload_n 0, 1) := by decide +kernel
theorem dX2_likelyOnBelt_71 : decode cX2_likelyOnBelt 71 = .ok (.getfield 19, 3) := by decide +kernel
theorem dX2_likelyOnBelt_74 : decode cX2_likelyOnBelt 74 = .ok (.aload_n 0, 1) := by decide +kernel
theorem dX2_likelyOnBelt_75 : decode cX2_likelyOnBelt 75 = .ok (.getfield 15, 3) := by decide +kernel
theorem dX2_likelyOnBelt_78 : decode cX2_likelyOnBelt 78 = .ok (.invokevirtual 22, 3) := by decide +kernel
theorem dX2_likelyOnBelt_81 : decode cX2_likelyOnBelt 81 = .ok (.aload_n 0, 1) := by decide +kernel
theorem dX2_likelyOnBelt_82 : decode cX2_likelyOnBelt 82 = .ok (.getfield 19, 3) := by decide +kernel
theorem dX2_likelyOnBelt_85 : decode cX2_likelyOnBelt 85 = .ok (.iload 10, 2) := by decide +kernel
theorem dX2_likelyOnBelt_87 : decode cX2_likelyOnBelt 87 = .ok (.putfield 105, 3) := by decide +kernel
theorem dX2_likelyOnBelt_90 : decode cX2_likelyOnBelt 90 = .ok (.lload 6, 2) := by decide +kernel
theorem dX2_likelyOnBelt_92 : decode cX2_likelyOnBelt 92 = .ok (.aload_n 0, 1) := by decide +kernel
theorem dX2_likelyOnBelt_93 : decode cX2_likelyOnBelt 93 = .ok (.iload_n 2, 1) := by decide +kernel
theorem dX2_likelyOnBelt_94 : decode cX2_likelyOnBelt 94 = .ok (.invokevirtual 28, 3) := by decide +kernel
theorem dX2_likelyOnBelt_97 : decode cX2_likelyOnBelt 97 = .ok (.iload_n 1, 1) := by decide +kernel
theorem dX2_likelyOnBelt_98 : decode cX2_likelyOnBelt 98 = .ok (.invokevirtual 108, 3) := by decide +kernel
theorem dX2_likelyOnBelt_101 : decode cX2_likelyOnBelt 101 = .ok (.ifCond .eq 8, 3) := by decide +kernel
theorem dX2_likelyOnBelt_104 : decode cX2_likelyOnBelt 104 = .ok (.lload 11, 2) := by decide +kernel
theorem dX2_likelyOnBelt_106 : decode cX2_likelyOnBelt 106 = .ok (.goto 4, 3) := by decide +kernel
theorem dX2_likelyOnBelt_109 : decode cX2_likelyOnBelt 109 = .ok (.lconst 0, 1) := by decide +kernel
theorem dX2_likelyOnBelt_110 : decode cX2_likelyOnBelt 110 = .ok (.ladd, 1) := by decide +kernel
theorem dX2_likelyOnBelt_111 : decode cX2_likelyOnBelt 111 = .ok (.lstore 6, 2) := by decide +kernel
theorem dX2_likelyOnBelt_113 : decode cX2_likelyOnBelt 113 = .ok (.iinc 10 1, 3) := by decide +kernel
theorem dX2_likelyOnBelt_116 : decode cX2_likelyOnBelt 116 = .ok (.goto (-97), 3) := by decide +kernel
theorem dX2_likelyOnBelt_119 : decode cX2_likelyOnBelt 119 = .ok (.lload 8, 2) := by decide +kernel
theorem dX2_likelyOnBelt_121 : decode cX2_likelyOnBelt 121 = .ok (.lload 6, 2) := by decide +kernel
theorem dX2_likelyOnBelt_123 : decode cX2_likelyOnBelt 123 = .ok (.invokestatic 111, 3) := by decide +kernel
theorem dX2_likelyOnBelt_126 : decode cX2_likelyOnBelt 126 = .ok (.lstore 10, 2) := by decide +kernel
theorem dX2_likelyOnBelt_128 : decode cX2_likelyOnBelt 128 = .ok (.lload 10, 2) := by decide +kernel
theorem dX2_likelyOnBelt_130 : decode cX2_likelyOnBelt 130 = .ok (.lconst 0, 1) := by decide +kernel
theorem dX2_likelyOnBelt_131 : decode cX2_likelyOnBelt 131 = .ok (.lcmp, 1) := by decide +kernel
theorem dX2_likelyOnBelt_132 : decode cX2_likelyOnBelt 132 = .ok (.ifCond .ne 9, 3) := by decide +kernel
theorem dX2_likelyOnBelt_135 : decode cX2_likelyOnBelt 135 = .ok (.ldc2_w 115, 3) := by decide +kernel
theorem dX2_likelyOnBelt_138 : decode cX2_likelyOnBelt 138 = .ok (.goto 18, 3) := by decide +kernel
theorem dX2_likelyOnBelt_141 : decode cX2_likelyOnBelt 141 = .ok (.iload 4, 2) := by decide +kernel
theorem dX2_likelyOnBelt_143 : decode cX2_likelyOnBelt 143 = .ok (.ifCond .ne 8, 3) := by decide +kernel
theorem dX2_likelyOnBelt_146 : decode cX2_likelyOnBelt 146 = .ok (.lload 6, 2) := by decide +kernel
theorem dX2_likelyOnBelt_148 : decode cX2_likelyOnBelt 148 = .ok (.goto 5, 3) := by decide +kernel
theorem dX2_likelyOnBelt_151 : decode cX2_likelyOnBelt 151 = .ok (.lload 8, 2) := by decide +kernel
theorem dX2_likelyOnBelt_153 : decode cX2_likelyOnBelt 153 = .ok (.lload 10, 2) := by decide +kernel
theorem dX2_likelyOnBelt_155 : decode cX2_likelyOnBelt 155 = .ok (.ldiv, 1) := by decide +kernel
theorem dX2_likelyOnBelt_156 : decode cX2_likelyOnBelt 156 = .ok (.lreturn, 1) := by decide +kernel
theorem dX2_power_0 : decode cX2_power 0 = .ok (.lconst 1, 1) := by decide +kernel
theorem dX2_power_1 : decode cX2_power 1 = .ok (.lstore_n 2, 1) := by decide +kernel
theorem dX2_power_2 : decode cX2_power 2 = .ok (.iconst 0, 1) := by decide +kernel
theorem dX2_power_3 : decode cX2_power 3 = .ok (.istore 4, 2) := by decide +kernel
theorem dX2_power_5 : decode cX2_power 5 = .ok (.iload 4, 2) := by decide +kernel
theorem dX2_power_7 : decode cX2_power 7 = .ok (.iload_n 1, 1) := by decide +kernel
theorem dX2_power_8 : decode cX2_power 8 = .ok (.if_icmp .ge 14, 3) := by decide +kernel
theorem dX2_power_11 : decode cX2_power 11 = .ok (.lload_n 2, 1) := by decide +kernel
theorem dX2_power_12 : decode cX2_power 12 = .ok (.iload_n 0, 1) := by decide +kernel
theorem dX2_power_13 : decode cX2_power 13 = .ok (.i2l, 1) := by decide +kernel
theorem dX2_power_14 : decode cX2_power 14 = .ok (.lmul, 1) := by decide +kernel
theorem dX2_power_15 : decode cX2_power 15 = .ok (.lstore_n 2, 1) := by decide +kernel
theorem dX2_power_16 : decode cX2_power 16 = .ok (.iinc 4 1, 3) := by decide +kernel
theorem dX2_power_19 : decode cX2_power 19 = .ok (.goto (-14), 3) := by decide +kernel
theorem dX2_power_22 : decode cX2_power 22 = .ok (.lload_n 2, 1) := by decide +kernel
theorem dX2_power_23 : decode cX2_power 23 = .ok (.lreturn, 1) := by decide +kernel
theorem dX2_commonDivisor_0 : decode cX2_commonDivisor 0 = .ok (.lload_n 0, 1) := by decide +kernel
theorem dX2_commonDivisor_1 : decode cX2_commonDivisor 1 = .ok (.lstore 4, 2) := by decide +kernel
theorem dX2_commonDivisor_3 : decode cX2_commonDivisor 3 = .ok (.lload_n 2, 1) := by decide +kernel
theorem dX2_commonDivisor_4 : decode cX2_commonDivisor 4 = .ok (.lstore 6, 2) := by decide +kernel
theorem dX2_commonDivisor_6 : decode cX2_commonDivisor 6 = .ok (.iconst 0, 1) := by decide +kernel
theorem dX2_commonDivisor_7 : decode cX2_commonDivisor 7 = .ok (.istore 8, 2) := by decide +kernel
theorem dX2_commonDivisor_9 : decode cX2_commonDivisor 9 = .ok (.iload 8, 2) := by decide +kernel
theorem dX2_commonDivisor_11 : decode cX2_commonDivisor 11 = .ok (.bipush 100, 2) := by decide +kernel
theorem dX2_commonDivisor_13 : decode cX2_commonDivisor 13 = .ok (.if_icmp .ge 31, 3) := by decide +kernel
theorem dX2_commonDivisor_16 : decode cX2_commonDivisor 16 = .ok (.lload 6, 2) := by decide +kernel
theorem dX2_commonDivisor_18 : decode cX2_commonDivisor 18 = .ok (.lconst 0, 1) := by decide +kernel
theorem dX2_commonDivisor_19 : decode cX2_commonDivisor 19 = .ok (.lcmp, 1) := by decide +kernel
theorem dX2_commonDivisor_20 : decode cX2_commonDivisor 20 = .ok (.ifCond .eq 24, 3) := by decide +kernel
theorem dX2_commonDivisor_23 : decode cX2_commonDivisor 23 = .ok (.lload 4, 2) := by decide +kernel
theorem dX2_commonDivisor_25 : decode cX2_commonDivisor 25 = .ok (.lload 6, 2) := by decide +kernel
theorem dX2_commonDivisor_27 : decode cX2_commonDivisor 27 = .ok (.lrem, 1) := by decide +kernel
theorem dX2_commonDivisor_28 : decode cX2_commonDivisor 28 = .ok (.lstore 9, 2) := by decide +kernel
theorem dX2_commonDivisor_30 : decode cX2_commonDivisor 30 = .ok (.lload 6, 2) := by decide +kernel
theorem dX2_commonDivisor_32 : decode cX2_commonDivisor 32 = .ok (.lstore 4, 2) := by decide +kernel
theorem dX2_commonDivisor_34 : decode cX2_commonDivisor 34 = .ok (.lload 9, 2) := by decide +kernel
theorem dX2_commonDivisor_36 : decode cX2_commonDivisor 36 = .ok (.lstore 6, 2) := by decide +kernel
theorem dX2_commonDivisor_38 : decode cX2_commonDivisor 38 = .ok (.iinc 8 1, 3) := by decide +kernel
theorem dX2_commonDivisor_41 : decode cX2_commonDivisor 41 = .ok (.goto (-32), 3) := by decide +kernel
theorem dX2_commonDivisor_44 : decode cX2_commonDivisor 44 = .ok (.lload 4, 2) := by decide +kernel
theorem dX2_commonDivisor_46 : decode cX2_commonDivisor 46 = .ok (.lreturn, 1) := by decide +kernel
theorem dX2_goneInDays_0 : decode cX2_goneInDays 0 = .ok (.aload_n 0, 1) := by decide +kernel
theorem dX2_goneInDays_1 : decode cX2_goneInDays 1 = .ok (.getfield 19, 3) := by decide +kernel
theorem dX2_goneInDays_4 : decode cX2_goneInDays 4 = .ok (.aload_n 0, 1) := by decide +kernel
theorem dX2_goneInDays_5 : decode cX2_goneInDays 5 = .ok (.getfield 15, 3) := by decide +kernel
theorem dX2_goneInDays_8 : decode cX2_goneInDays 8 = .ok (.invokevirtual 22, 3) := by decide +kernel
theorem dX2_goneInDays_11 : decode cX2_goneInDays 11 = .ok (.iload_n 2, 1) := by decide +kernel
theorem dX2_goneInDays_12 : decode cX2_goneInDays 12 = .ok (.i2l, 1) := by decide +kernel
theorem dX2_goneInDays_13 : decode cX2_goneInDays 13 = .ok (.lstore 4, 2) := by decide +kernel
theorem dX2_goneInDays_15 : decode cX2_goneInDays 15 = .ok (.iconst 0, 1) := by decide +kernel
theorem dX2_goneInDays_16 : decode cX2_goneInDays 16 = .ok (.istore 6, 2) := by decide +kernel
theorem dX2_goneInDays_18 : decode cX2_goneInDays 18 = .ok (.iconst 0, 1) := by decide +kernel
theorem dX2_goneInDays_19 : decode cX2_goneInDays 19 = .ok (.istore 7, 2) := by decide +kernel
theorem dX2_goneInDays_21 : decode cX2_goneInDays 21 = .ok (.iconst 0, 1) := by decide +kernel
theorem dX2_goneInDays_22 : decode cX2_goneInDays 22 = .ok (.istore 8, 2) := by decide +kernel
theorem dX2_goneInDays_24 : decode cX2_goneInDays 24 = .ok (.iload 8, 2) := by decide +kernel
theorem dX2_goneInDays_26 : decode cX2_goneInDays 26 = .ok (.iload_n 1, 1) := by decide +kernel
theorem dX2_goneInDays_27 : decode cX2_goneInDays 27 = .ok (.if_icmp .ge 88, 3) := by decide +kernel
theorem dX2_goneInDays_30 : decode cX2_goneInDays 30 = .ok (.lload 4, 2) := by decide +kernel
theorem dX2_goneInDays_32 : decode cX2_goneInDays 32 = .ok (.ldc2_w 117, 3) := by decide +kernel
theorem dX2_goneInDays_35 : decode cX2_goneInDays 35 = .ok (.lmul, 1) := by decide +kernel
theorem dX2_goneInDays_36 : decode cX2_goneInDays 36 = .ok (.ldc2_w 119, 3) := by decide +kernel
theorem dX2_goneInDays_39 : decode cX2_goneInDays 39 = .ok (.lrem, 1) := by decide +kernel
theorem dX2_goneInDays_40 : decode cX2_goneInDays 40 = .ok (.lstore 4, 2) := by decide +kernel
theorem dX2_goneInDays_42 : decode cX2_goneInDays 42 = .ok (.aload_n 0, 1) := by decide +kernel
theorem dX2_goneInDays_43 : decode cX2_goneInDays 43 = .ok (.lload 4, 2) := by decide +kernel
theorem dX2_goneInDays_45 : decode cX2_goneInDays 45 = .ok (.invokevirtual 121, 3) := by decide +kernel
theorem dX2_goneInDays_48 : decode cX2_goneInDays 48 = .ok (.aload_n 0, 1) := by decide +kernel
theorem dX2_goneInDays_49 : decode cX2_goneInDays 49 = .ok (.getfield 19, 3) := by decide +kernel
theorem dX2_goneInDays_52 : decode cX2_goneInDays 52 = .ok (.bipush 7, 2) := by decide +kernel
theorem dX2_goneInDays_54 : decode cX2_goneInDays 54 = .ok (.invokevirtual 44, 3) := by decide +kernel
theorem dX2_goneInDays_57 : decode cX2_goneInDays 57 = .ok (.istore 9, 2) := by decide +kernel
theorem dX2_goneInDays_59 : decode cX2_goneInDays 59 = .ok (.aload_n 0, 1) := by decide +kernel
theorem dX2_goneInDays_60 : decode cX2_goneInDays 60 = .ok (.getfield 19, 3) := by decide +kernel
theorem dX2_goneInDays_63 : decode cX2_goneInDays 63 = .ok (.invokevirtual 32, 3) := by decide +kernel
theorem dX2_goneInDays_66 : decode cX2_goneInDays 66 = .ok (.iload 6, 2) := by decide +kernel
theorem dX2_goneInDays_68 : decode cX2_goneInDays 68 = .ok (.aload_n 0, 1) := by decide +kernel
theorem dX2_goneInDays_69 : decode cX2_goneInDays 69 = .ok (.getfield 19, 3) := by decide +kernel
theorem dX2_goneInDays_72 : decode cX2_goneInDays 72 = .ok (.bipush 7, 2) := by decide +kernel
theorem dX2_goneInDays_74 : decode cX2_goneInDays 74 = .ok (.invokevirtual 44, 3) := by decide +kernel
theorem dX2_goneInDays_77 : decode cX2_goneInDays 77 = .ok (.iload 9, 2) := by decide +kernel
theorem dX2_goneInDays_79 : decode cX2_goneInDays 79 = .ok (.iconst (-1), 1) := by decide +kernel
theorem dX2_goneInDays_80 : decode cX2_goneInDays 80 = .ok (.ixor, 1) := by decide +kernel
theorem dX2_goneInDays_81 : decode cX2_goneInDays 81 = .ok (.iand, 1) := by decide +kernel
theorem dX2_goneInDays_82 : decode cX2_goneInDays 82 = .ok (.invokestatic 61, 3) := by decide +kernel
theorem dX2_goneInDays_85 : decode cX2_goneInDays 85 = .ok (.iadd, 1) := by decide +kernel
theorem dX2_goneInDays_86 : decode cX2_goneInDays 86 = .ok (.istore 6, 2) := by decide +kernel
theorem dX2_goneInDays_88 : decode cX2_goneInDays 88 = .ok (.iload 7, 2) := by decide +kernel
theorem dX2_goneInDays_90 : decode cX2_goneInDays 90 = .ok (.aload_n 0, 1) := by decide +kernel
theorem dX2_goneInDays_91 : decode cX2_goneInDays 91 = .ok (.getfield 19, 3) := by decide +kernel
theorem dX2_goneInDays_94 : decode cX2_goneInDays 94 = .ok (.iconst 5, 1) := by decide +kernel
theorem dX2_goneInDays_95 : decode cX2_goneInDays 95 = .ok (.invokevirtual 44, 3) := by decide +kernel
theorem dX2_goneInDays_98 : decode cX2_goneInDays 98 = .ok (.iload 9, 2) := by decide +kernel
theorem dX2_goneInDays_100 : decode cX2_goneInDays 100 = .ok (.iconst (-1), 1) := by decide +kernel
theorem dX2_goneInDays_101 : decode cX2_goneInDays 101 = .ok (.ixor, 1) := by decide +kernel
theorem dX2_goneInDays_102 : decode cX2_goneInDays 102 = .ok (.iand, 1) := by decide +kernel
theorem dX2_goneInDays_103 : decode cX2_goneInDays 103 = .ok (.invokestatic 61, 3) := by decide +kernel
theorem dX2_goneInDays_106 : decode cX2_goneInDays 106 = .ok (.iadd, 1) := by decide +kernel
theorem dX2_goneInDays_107 : decode cX2_goneInDays 107 = .ok (.istore 7, 2) := by decide +kernel
theorem dX2_goneInDays_109 : decode cX2_goneInDays 109 = .ok (.iinc 8 1, 3) := by decide +kernel
theorem dX2_goneInDays_112 : decode cX2_goneInDays 112 = .ok (.goto (-88), 3) := by decide +kernel
theorem dX2_goneInDays_115 : decode cX2_goneInDays 115 = .ok (.iload_n 3, 1) := by decide +kernel
theorem dX2_goneInDays_116 : decode cX2_goneInDays 116 = .ok (.ifCond .ne 8, 3) := by decide +kernel
theorem dX2_goneInDays_119 : decode cX2_goneInDays 119 = .ok (.iload 6, 2) := by decide +kernel
theorem dX2_goneInDays_121 : decode cX2_goneInDays 121 = .ok (.goto 5, 3) := by decide +kernel
theorem dX2_goneInDays_124 : decode cX2_goneInDays 124 = .ok (.iload 7, 2) := by decide +kernel
theorem dX2_goneInDays_126 : decode cX2_goneInDays 126 = .ok (.ireturn, 1) := by decide +kernel
theorem dX2_drawOne_0 : decode cX2_drawOne 0 = .ok (.aload_n 0, 1) := by decide +kernel
theorem dX2_drawOne_1 : decode cX2_drawOne 1 = .ok (.getfield 19, 3) := by decide +kernel
theorem dX2_drawOne_4 : decode cX2_drawOne 4 = .ok (.getfield 40, 3) := by decide +kernel
theorem dX2_drawOne_7 : decode cX2_drawOne 7 = .ok (.iconst 1, 1) := by decide +kernel
theorem dX2_drawOne_8 : decode cX2_drawOne 8 = .ok (.if_icmp .lt 14, 3) := by decide +kernel
theorem dX2_drawOne_11 : decode cX2_drawOne 11 = .ok (.aload_n 0, 1) := by decide +kernel
theorem dX2_drawOne_12 : decode cX2_drawOne 12 = .ok (.getfield 19, 3) := by decide +kernel
theorem dX2_drawOne_15 : decode cX2_drawOne 15 = .ok (.getfield 48, 3) := by decide +kernel
theorem dX2_drawOne_18 : decode cX2_drawOne 18 = .ok (.iconst 1, 1) := by decide +kernel
theorem dX2_drawOne_19 : decode cX2_drawOne 19 = .ok (.if_icmp .ge 4, 3) := by decide +kernel
theorem dX2_drawOne_22 : decode cX2_drawOne 22 = .ok (.return_, 1) := by decide +kernel
theorem dX2_drawOne_23 : decode cX2_drawOne 23 = .ok (.lload_n 1, 1) := by decide +kernel
theorem dX2_drawOne_24 : decode cX2_drawOne 24 = .ok (.aload_n 0, 1) := by decide +kernel
theorem dX2_drawOne_25 : decode cX2_drawOne 25 = .ok (.getfield 19, 3) := by decide +kernel
theorem dX2_drawOne_28 : decode cX2_drawOne 28 = .ok (.getfield 40, 3) := by decide +kernel
theorem dX2_drawOne_31 : decode cX2_drawOne 31 = .ok (.i2l, 1) := by decide +kernel
theorem dX2_drawOne_32 : decode cX2_drawOne 32 = .ok (.lrem, 1) := by decide +kernel
theorem dX2_drawOne_33 : decode cX2_drawOne 33 = .ok (.l2i, 1) := by decide +kernel
theorem dX2_drawOne_34 : decode cX2_drawOne 34 = .ok (.istore_n 3, 1) := by decide +kernel
theorem dX2_drawOne_35 : decode cX2_drawOne 35 = .ok (.aload_n 0, 1) := by decide +kernel
theorem dX2_drawOne_36 : decode cX2_drawOne 36 = .ok (.getfield 19, 3) := by decide +kernel
theorem dX2_drawOne_39 : decode cX2_drawOne 39 = .ok (.iload_n 3, 1) := by decide +kernel
theorem dX2_drawOne_40 : decode cX2_drawOne 40 = .ok (.invokevirtual 125, 3) := by decide +kernel
theorem dX2_drawOne_43 : decode cX2_drawOne 43 = .ok (.ifCond .ne 4, 3) := by decide +kernel
theorem dX2_drawOne_46 : decode cX2_drawOne 46 = .ok (.return_, 1) := by decide +kernel
theorem dX2_drawOne_47 : decode cX2_drawOne 47 = .ok (.aload_n 0, 1) := by decide +kernel
theorem dX2_drawOne_48 : decode cX2_drawOne 48 = .ok (.getfield 19, 3) := by decide +kernel
theorem dX2_drawOne_51 : decode cX2_drawOne 51 = .ok (.iload_n 3, 1) := by decide +kernel
theorem dX2_drawOne_52 : decode cX2_drawOne 52 = .ok (.invokevirtual 35, 3) := by decide +kernel
theorem dX2_drawOne_55 : decode cX2_drawOne 55 = .ok (.ifCond .ne 14, 3) := by decide +kernel
theorem dX2_drawOne_58 : decode cX2_drawOne 58 = .ok (.aload_n 0, 1) := by decide +kernel
theorem dX2_drawOne_59 : decode cX2_drawOne 59 = .ok (.getfield 19, 3) := by decide +kernel
theorem dX2_drawOne_62 : decode cX2_drawOne 62 = .ok (.iload_n 3, 1) := by decide +kernel
theorem dX2_drawOne_63 : decode cX2_drawOne 63 = .ok (.invokevirtual 128, 3) := by decide +kernel
theorem dX2_drawOne_66 : decode cX2_drawOne 66 = .ok (.goto 33, 3) := by decide +kernel
theorem dX2_drawOne_69 : decode cX2_drawOne 69 = .ok (.lload_n 1, 1) := by decide +kernel
theorem dX2_drawOne_70 : decode cX2_drawOne 70 = .ok (.ldc2_w 131, 3) := by decide +kernel
theorem dX2_drawOne_73 : decode cX2_drawOne 73 = .ok (.lrem, 1) := by decide +kernel
theorem dX2_drawOne_74 : decode cX2_drawOne 74 = .ok (.lconst 0, 1) := by decide +kernel
theorem dX2_drawOne_75 : decode cX2_drawOne 75 = .ok (.lcmp, 1) := by decide +kernel
theorem dX2_drawOne_76 : decode cX2_drawOne 76 = .ok (.ifCond .ne 23, 3) := by decide +kernel
theorem dX2_drawOne_79 : decode cX2_drawOne 79 = .ok (.aload_n 0, 1) := by decide +kernel
theorem dX2_drawOne_80 : decode cX2_drawOne 80 = .ok (.getfield 19, 3) := by decide +kernel
theorem dX2_drawOne_83 : decode cX2_drawOne 83 = .ok (.getfield 55, 3) := by decide +kernel
theorem dX2_drawOne_86 : decode cX2_drawOne 86 = .ok (.iload_n 3, 1) := by decide +kernel
theorem dX2_drawOne_87 : decode cX2_drawOne 87 = .ok (.lload_n 1, 1) := by decide +kernel
theorem dX2_drawOne_88 : decode cX2_drawOne 88 = .ok (.aload_n 0, 1) := by decide +kernel
theorem dX2_drawOne_89 : decode cX2_drawOne 89 = .ok (.getfield 19, 3) := by decide +kernel
theorem dX2_drawOne_92 : decode cX2_drawOne 92 = .ok (.getfield 48, 3) := by decide +kernel
theorem dX2_drawOne_95 : decode cX2_drawOne 95 = .ok (.i2l, 1) := by decide +kernel
theorem dX2_drawOne_96 : decode cX2_drawOne 96 = .ok (.lrem, 1) := by decide +kernel
theorem dX2_drawOne_97 : decode cX2_drawOne 97 = .ok (.l2i, 1) := by decide +kernel
theorem dX2_drawOne_98 : decode cX2_drawOne 98 = .ok (.iastore, 1) := by decide +kernel
theorem dX2_drawOne_99 : decode cX2_drawOne 99 = .ok (.return_, 1) := by decide +kernel
theorem dX4_init_0 : decode cX4_init 0 = .ok (.aload_n 0, 1) := by decide +kernel
theorem dX4_init_1 : decode cX4_init 1 = .ok (.invokespecial 3, 3) := by decide +kernel
theorem dX4_init_4 : decode cX4_init 4 = .ok (.aload_n 0, 1) := by decide +kernel
theorem dX4_init_5 : decode cX4_init 5 = .ok (.sipush 240, 3) := by decide +kernel
theorem dX4_init_8 : decode cX4_init 8 = .ok (.newarray .int, 2) := by decide +kernel
theorem dX4_init_10 : decode cX4_init 10 = .ok (.putfield 11, 3) := by decide +kernel
theorem dX4_init_13 : decode cX4_init 13 = .ok (.aload_n 0, 1) := by decide +kernel
theorem dX4_init_14 : decode cX4_init 14 = .ok (.bipush 40, 2) := by decide +kernel
theorem dX4_init_16 : decode cX4_init 16 = .ok (.newarray .int, 2) := by decide +kernel
theorem dX4_init_18 : decode cX4_init 18 = .ok (.putfield 17, 3) := by decide +kernel
theorem dX4_init_21 : decode cX4_init 21 = .ok (.aload_n 0, 1) := by decide +kernel
theorem dX4_init_22 : decode cX4_init 22 = .ok (.bipush 40, 2) := by decide +kernel
theorem dX4_init_24 : decode cX4_init 24 = .ok (.newarray .int, 2) := by decide +kernel
theorem dX4_init_26 : decode cX4_init 26 = .ok (.putfield 20, 3) := by decide +kernel
theorem dX4_init_29 : decode cX4_init 29 = .ok (.aload_n 0, 1) := by decide +kernel
theorem dX4_init_30 : decode cX4_init 30 = .ok (.bipush 6, 2) := by decide +kernel
theorem dX4_init_32 : decode cX4_init 32 = .ok (.newarray .int, 2) := by decide +kernel
theorem dX4_init_34 : decode cX4_init 34 = .ok (.putfield 23, 3) := by decide +kernel
theorem dX4_init_37 : decode cX4_init 37 = .ok (.aload_n 0, 1) := by decide +kernel
theorem dX4_init_38 : decode cX4_init 38 = .ok (.bipush 6, 2) := by decide +kernel
theorem dX4_init_40 : decode cX4_init 40 = .ok (.newarray .int, 2) := by decide +kernel
theorem dX4_init_42 : decode cX4_init 42 = .ok (.putfield 26, 3) := by decide +kernel
theorem dX4_init_45 : decode cX4_init 45 = .ok (.aload_n 0, 1) := by decide +kernel
theorem dX4_init_46 : decode cX4_init 46 = .ok (.aload_n 1, 1) := by decide +kernel
theorem dX4_init_47 : decode cX4_init 47 = .ok (.putfield 29, 3) := by decide +kernel
theorem dX4_init_50 : decode cX4_init 50 = .ok (.return_, 1) := by decide +kernel
theorem dX4_mostOwn_0 : decode cX4_mostOwn 0 = .ok (.aload_n 0, 1) := by decide +kernel
theorem dX4_mostOwn_1 : decode cX4_mostOwn 1 = .ok (.getfield 33, 3) := by decide +kernel
theorem dX4_mostOwn_4 : decode cX4_mostOwn 4 = .ok (.ireturn, 1) := by decide +kernel
theorem dX4_search_0 : decode cX4_search 0 = .ok (.aload_n 1, 1) := by decide +kernel
theorem dX4_search_1 : decode cX4_search 1 = .ok (.aload_n 0, 1) := by decide +kernel
theorem dX4_search_2 : decode cX4_search 2 = .ok (.getfield 17, 3) := by decide +kernel
theorem dX4_search_5 : decode cX4_search 5 = .ok (.iconst 0, 1) := by decide +kernel
theorem dX4_search_6 : decode cX4_search 6 = .ok (.invokevirtual 37, 3) := by decide +kernel
theorem dX4_search_9 : decode cX4_search 9 = .ok (.iload_n 2, 1) := by decide +kernel
theorem dX4_search_10 : decode cX4_search 10 = .ok (.aload_n 0, 1) := by decide +kernel
theorem dX4_search_11 : decode cX4_search 11 = .ok (.getfield 41, 3) := by decide +kernel
theorem dX4_search_14 : decode cX4_search 14 = .ok (.if_icmp .ne 11, 3) := by decide +kernel
theorem dX4_search_17 : decode cX4_search 17 = .ok (.aload_n 0, 1) := by decide +kernel
theorem dX4_search_18 : decode cX4_search 18 = .ok (.invokevirtual 44, 3) := by decide +kernel
theorem dX4_search_21 : decode cX4_search 21 = .ok (.ifCond .eq 4, 3) := by decide +kernel
theorem dX4_search_24 : decode cX4_search 24 = .ok (.return_, 1) := by decide +kernel
theorem dX4_search_25 : decode cX4_search 25 = .ok (.aload_n 0, 1) := by decide +kernel
theorem dX4_search_26 : decode cX4_search 26 = .ok (.getfield 17, 3) := by decide +kernel
theorem dX4_search_29 : decode cX4_search 29 = .ok (.iconst 0, 1) := by decide +kernel
theorem dX4_search_30 : decode cX4_search 30 = .ok (.aload_n 0, 1) := by decide +kernel
theorem dX4_search_31 : decode cX4_search 31 = .ok (.getfield 20, 3) := by decide +kernel
theorem dX4_search_34 : decode cX4_search 34 = .ok (.iconst 0, 1) := by decide +kernel
theorem dX4_search_35 : decode cX4_search 35 = .ok (.bipush 40, 2) := by decide +kernel
theorem dX4_search_37 : decode cX4_search 37 = .ok (.invokestatic 48, 3) := by decide +kernel
theorem dX4_search_40 : decode cX4_search 40 = .ok (.aload_n 0, 1) := by decide +kernel
theorem dX4_search_41 : decode cX4_search 41 = .ok (.iload_n 2, 1) := by decide +kernel
theorem dX4_search_42 : decode cX4_search 42 = .ok (.putfield 41, 3) := by decide +kernel
theorem dX4_search_45 : decode cX4_search 45 = .ok (.aload_n 0, 1) := by decide +kernel
theorem dX4_search_46 : decode cX4_search 46 = .ok (.iconst (-1), 1) := by decide +kernel
theorem dX4_search_47 : decode cX4_search 47 = .ok (.putfield 33, 3) := by decide +kernel
theorem dX4_search_50 : decode cX4_search 50 = .ok (.aload_n 0, 1) := by decide +kernel
theorem dX4_search_51 : decode cX4_search 51 = .ok (.getfield 29, 3) := by decide +kernel
theorem dX4_search_54 : decode cX4_search 54 = .ok (.aload_n 1, 1) := by decide +kernel
theorem dX4_search_55 : decode cX4_search 55 = .ok (.invokevirtual 54, 3) := by decide +kernel
theorem dX4_search_58 : decode cX4_search 58 = .ok (.aload_n 0, 1) := by decide +kernel
theorem dX4_search_59 : decode cX4_search 59 = .ok (.iconst 0, 1) := by decide +kernel
theorem dX4_search_60 : decode cX4_search 60 = .ok (.iconst 0, 1) := by decide +kernel
theorem dX4_search_61 : decode cX4_search 61 = .ok (.invokevirtual 58, 3) := by decide +kernel
theorem dX4_search_64 : decode cX4_search 64 = .ok (.return_, 1) := by decide +kernel
theorem dX4_isSearched_0 : decode cX4_isSearched 0 = .ok (.iconst 0, 1) := by decide +kernel
theorem dX4_isSearched_1 : decode cX4_isSearched 1 = .ok (.istore_n 1, 1) := by decide +kernel
theorem dX4_isSearched_2 : decode cX4_isSearched 2 = .ok (.iload_n 1, 1) := by decide +kernel
theorem dX4_isSearched_3 : decode cX4_isSearched 3 = .ok (.bipush 40, 2) := by decide +kernel
theorem dX4_isSearched_5 : decode cX4_isSearched 5 = .ok (.if_icmp .ge 26, 3) := by decide +kernel
theorem dX4_isSearched_8 : decode cX4_isSearched 8 = .ok (.aload_n 0, 1) := by decide +kernel
theorem dX4_isSearched_9 : decode cX4_isSearched 9 = .ok (.getfield 17, 3) := by decide +kernel
theorem dX4_isSearched_12 : decode cX4_isSearched 12 = .ok (.iload_n 1, 1) := by decide +kernel
theorem dX4_isSearched_13 : decode cX4_isSearched 13 = .ok (.iaload, 1) := by decide +kernel
theorem dX4_isSearched_14 : decode cX4_isSearched 14 = .ok (.aload_n 0, 1) := by decide +kernel
theorem dX4_isSearched_15 : decode cX4_isSearched 15 = .ok (.getfield 20, 3) := by decide +kernel
theorem dX4_isSearched_18 : decode cX4_isSearched 18 = .ok (.iload_n 1, 1) := by decide +kernel
theorem dX4_isSearched_19 : decode cX4_isSearched 19 = .ok (.iaload, 1) := by decide +kernel
theorem dX4_isSearched_20 : decode cX4_isSearched 20 = .ok (.if_icmp .eq 5, 3) := by decide +kernel
theorem dX4_isSearched_23 : decode cX4_isSearched 23 = .ok (.iconst 0, 1) := by decide +kernel
theorem dX4_isSearched_24 : decode cX4_isSearched 24 = .ok (.ireturn, 1) := by decide +kernel
theorem dX4_isSearched_25 : decode cX4_isSearched 25 = .ok (.iinc 1 1, 3) := by decide +kernel
theorem dX4_isSearched_28 : decode cX4_isSearched 28 = .ok (.goto (-26), 3) := by decide +kernel
theorem dX4_isSearched_31 : decode cX4_isSearched 31 = .ok (.iconst 1, 1) := by decide +kernel
theorem dX4_isSearched_32 : decode cX4_isSearched 32 = .ok (.ireturn, 1) := by decide +kernel
theorem dX4_tryFrom_0 : decode cX4_tryFrom 0 = .ok (.iload_n 1, 1) := by decide +kernel
theorem dX4_tryFrom_1 : decode cX4_tryFrom 1 = .ok (.istore_n 3, 1) := by decide +kernel
theorem dX4_tryFrom_2 : decode cX4_tryFrom 2 = .ok (.iload_n 3, 1) := by decide +kernel
theorem dX4_tryFrom_3 : decode cX4_tryFrom 3 = .ok (.aload_n 0, 1) := by decide +kernel
theorem dX4_tryFrom_4 : decode cX4_tryFrom 4 = .ok (.getfield 41, 3) := by decide +kernel
theorem dX4_tryFrom_7 : decode cX4_tryFrom 7 = .ok (.if_icmp .ge 41, 3) := by decide +kernel
theorem dX4_tryFrom_10 : decode cX4_tryFrom 10 = .ok (.aload_n 0, 1) := by decide +kernel
theorem dX4_tryFrom_11 : decode cX4_tryFrom 11 = .ok (.getfield 29, 3) := by decide +kernel
theorem dX4_tryFrom_14 : decode cX4_tryFrom 14 = .ok (.iconst 1, 1) := by decide +kernel
theorem dX4_tryFrom_15 : decode cX4_tryFrom 15 = .ok (.invokevirtual 62, 3) := by decide +kernel
theorem dX4_tryFrom_18 : decode cX4_tryFrom 18 = .ok (.aload_n 0, 1) := by decide +kernel
theorem dX4_tryFrom_19 : decode cX4_tryFrom 19 = .ok (.getfield 29, 3) := by decide +kernel
theorem dX4_tryFrom_22 : decode cX4_tryFrom 22 = .ok (.invokevirtual 66, 3) := by decide +kernel
theorem dX4_tryFrom_25 : decode cX4_tryFrom 25 = .ok (.ifCond .eq 10, 3) := by decide +kernel
theorem dX4_tryFrom_28 : decode cX4_tryFrom 28 = .ok (.aload_n 0, 1) := by decide +kernel
theorem dX4_tryFrom_29 : decode cX4_tryFrom 29 = .ok (.iload_n 3, 1) := by decide +kernel
theorem dX4_tryFrom_30 : decode cX4_tryFrom 30 = .ok (.iload_n 2, 1) := by decide +kernel
theorem dX4_tryFrom_31 : decode cX4_tryFrom 31 = .ok (.invokevirtual 69, 3) := by decide +kernel
theorem dX4_tryFrom_34 : decode cX4_tryFrom 34 = .ok (.return_, 1) := by decide +kernel
theorem dX4_tryFrom_35 : decode cX4_tryFrom 35 = .ok (.aload_n 0, 1) := by decide +kernel
theorem dX4_tryFrom_36 : decode cX4_tryFrom 36 = .ok (.getfield 29, 3) := by decide +kernel
theorem dX4_tryFrom_39 : decode cX4_tryFrom 39 = .ok (.invokevirtual 72, 3) := by decide +kernel
theorem dX4_tryFrom_42 : decode cX4_tryFrom 42 = .ok (.iinc 3 1, 3) := by decide +kernel
theorem dX4_tryFrom_45 : decode cX4_tryFrom 45 = .ok (.goto (-43), 3) := by decide +kernel
theorem dX4_tryFrom_48 : decode cX4_tryFrom 48 = .ok (.aload_n 0, 1) := by decide +kernel
theorem dX4_tryFrom_49 : decode cX4_tryFrom 49 = .ok (.iload_n 2, 1) := by decide +kernel
theorem dX4_tryFrom_50 : decode cX4_tryFrom 50 = .ok (.invokevirtual 75, 3) := by decide +kernel
theorem dX4_tryFrom_53 : decode cX4_tryFrom 53 = .ok (.return_, 1) := by decide +kernel
theorem dX4_tryEachFall_0 : decode cX4_tryEachFall 0 = .ok (.iload_n 2, 1) := by decide +kernel
theorem dX4_tryEachFall_1 : decode cX4_tryEachFall 1 = .ok (.ifCond .lt 9, 3) := by decide +kernel
theorem dX4_tryEachFall_4 : decode cX4_tryEachFall 4 = .ok (.iload_n 2, 1) := by decide +kernel
theorem dX4_tryEachFall_5 : decode cX4_tryEachFall 5 = .ok (.bipush 6, 2) := by decide +kernel
theorem dX4_tryEachFall_7 : decode cX4_tryEachFall 7 = .ok (.if_icmp .lt 4, 3) := by decide +kernel
theorem dX4_tryEachFall_10 : decode cX4_tryEachFall 10 = .ok (.return_, 1) := by decide +kernel
theorem dX4_tryEachFall_11 : decode cX4_tryEachFall 11 = .ok (.aload_n 0, 1) := by decide +kernel
theorem dX4_tryEachFall_12 : decode cX4_tryEachFall 12 = .ok (.getfield 29, 3) := by decide +kernel
theorem dX4_tryEachFall_15 : decode cX4_tryEachFall 15 = .ok (.iconst 1, 1) := by decide +kernel
theorem dX4_tryEachFall_16 : decode cX4_tryEachFall 16 = .ok (.invokevirtual 78, 3) := by decide +kernel
theorem dX4_tryEachFall_19 : decode cX4_tryEachFall 19 = .ok (.istore_n 3, 1) := by decide +kernel
theorem dX4_tryEachFall_20 : decode cX4_tryEachFall 20 = .ok (.aload_n 0, 1) := by decide +kernel
theorem dX4_tryEachFall_21 : decode cX4_tryEachFall 21 = .ok (.getfield 29, 3) := by decide +kernel
theorem dX4_tryEachFall_24 : decode cX4_tryEachFall 24 = .ok (.aload_n 0, 1) := by decide +kernel
theorem dX4_tryEachFall_25 : decode cX4_tryEachFall 25 = .ok (.getfield 11, 3) := by decide +kernel
theorem dX4_tryEachFall_28 : decode cX4_tryEachFall 28 = .ok (.iload_n 2, 1) := by decide +kernel
theorem dX4_tryEachFall_29 : decode cX4_tryEachFall 29 = .ok (.bipush 40, 2) := by decide +kernel
theorem dX4_tryEachFall_31 : decode cX4_tryEachFall 31 = .ok (.imul, 1) := by decide +kernel
theorem dX4_tryEachFall_32 : decode cX4_tryEachFall 32 = .ok (.invokevirtual 37, 3) := by decide +kernel
theorem dX4_tryEachFall_35 : decode cX4_tryEachFall 35 = .ok (.iconst 0, 1) := by decide +kernel
theorem dX4_tryEachFall_36 : decode cX4_tryEachFall 36 = .ok (.istore 4, 2) := by decide +kernel
theorem dX4_tryEachFall_38 : decode cX4_tryEachFall 38 = .ok (.iload 4, 2) := by decide +kernel
theorem dX4_tryEachFall_40 : decode cX4_tryEachFall 40 = .ok (.aload_n 0, 1) := by decide +kernel
theorem dX4_tryEachFall_41 : decode cX4_tryEachFall 41 = .ok (.getfield 29, 3) := by decide +kernel
theorem dX4_tryEachFall_44 : decode cX4_tryEachFall 44 = .ok (.getfield 82, 3) := by decide +kernel
theorem dX4_tryEachFall_47 : decode cX4_tryEachFall 47 = .ok (.if_icmp .ge 75, 3) := by decide +kernel
theorem dX4_tryEachFall_50 : decode cX4_tryEachFall 50 = .ok (.iload_n 3, 1) := by decide +kernel
theorem dX4_tryEachFall_51 : decode cX4_tryEachFall 51 = .ok (.iload 4, 2) := by decide +kernel
theorem dX4_tryEachFall_53 : decode cX4_tryEachFall 53 = .ok (.ishr, 1) := by decide +kernel
theorem dX4_tryEachFall_54 : decode cX4_tryEachFall 54 = .ok (.iconst 1, 1) := by decide +kernel
theorem dX4_tryEachFall_55 : decode cX4_tryEachFall 55 = .ok (.iand, 1) := by decide +kernel
theorem dX4_tryEachFall_56 : decode cX4_tryEachFall 56 = .ok (.iconst 1, 1) := by decide +kernel
theorem dX4_tryEachFall_57 : decode cX4_tryEachFall 57 = .ok (.if_icmp .ne 59, 3) := by decide +kernel
theorem dX4_tryEachFall_60 : decode cX4_tryEachFall 60 = .ok (.aload_n 0, 1) := by decide +kernel
theorem dX4_tryEachFall_61 : decode cX4_tryEachFall 61 = .ok (.getfield 29, 3) := by decide +kernel
theorem dX4_tryEachFall_64 : decode cX4_tryEachFall 64 = .ok (.aload_n 0, 1) := by decide +kernel
theorem dX4_tryEachFall_65 : decode cX4_tryEachFall 65 = .ok (.getfield 11, 3) := by decide +kernel
theorem dX4_tryEachFall_68 : decode cX4_tryEachFall 68 = .ok (.iload_n 2, 1) := by decide +kernel
theorem dX4_tryEachFall_69 : decode cX4_tryEachFall 69 = .ok (.bipush 40, 2) := by decide +kernel
theorem dX4_tryEachFall_71 : decode cX4_tryEachFall 71 = .ok (.imul, 1) := by decide +kernel
theorem dX4_tryEachFall_72 : decode cX4_tryEachFall 72 = .ok (.invokevirtual 85, 3) := by decide +kernel
theorem dX4_tryEachFall_75 : decode cX4_tryEachFall 75 = .ok (.aload_n 0, 1) := by decide +kernel
theorem dX4_tryEachFall_76 : decode cX4_tryEachFall 76 = .ok (.getfield 23, 3) := by decide +kernel
theorem dX4_tryEachFall_79 : decode cX4_tryEachFall 79 = .ok (.iload_n 2, 1) := by decide +kernel
theorem dX4_tryEachFall_80 : decode cX4_tryEachFall 80 = .ok (.iload 4, 2) := by decide +kernel
theorem dX4_tryEachFall_82 : decode cX4_tryEachFall 82 = .ok (.iastore, 1) := by decide +kernel
theorem dX4_tryEachFall_83 : decode cX4_tryEachFall 83 = .ok (.aload_n 0, 1) := by decide +kernel
theorem dX4_tryEachFall_84 : decode cX4_tryEachFall 84 = .ok (.getfield 29, 3) := by decide +kernel
theorem dX4_tryEachFall_87 : decode cX4_tryEachFall 87 = .ok (.iload 4, 2) := by decide +kernel
theorem dX4_tryEachFall_89 : decode cX4_tryEachFall 89 = .ok (.invokevirtual 88, 3) := by decide +kernel
theorem dX4_tryEachFall_92 : decode cX4_tryEachFall 92 = .ok (.aload_n 0, 1) := by decide +kernel
theorem dX4_tryEachFall_93 : decode cX4_tryEachFall 93 = .ok (.getfield 29, 3) := by decide +kernel
theorem dX4_tryEachFall_96 : decode cX4_tryEachFall 96 = .ok (.invokevirtual 72, 3) := by decide +kernel
theorem dX4_tryEachFall_99 : decode cX4_tryEachFall 99 = .ok (.aload_n 0, 1) := by decide +kernel
theorem dX4_tryEachFall_100 : decode cX4_tryEachFall 100 = .ok (.invokevirtual 91, 3) := by decide +kernel
theorem dX4_tryEachFall_103 : decode cX4_tryEachFall 103 = .ok (.ifCond .eq 13, 3) := by decide +kernel
theorem dX4_tryEachFall_106 : decode cX4_tryEachFall 106 = .ok (.aload_n 0, 1) := by decide +kernel
theorem dX4_tryEachFall_107 : decode cX4_tryEachFall 107 = .ok (.iload_n 1, 1) := by decide +kernel
theorem dX4_tryEachFall_108 : decode cX4_tryEachFall 108 = .ok (.iconst 1, 1) := by decide +kernel
theorem dX4_tryEachFall_109 : decode cX4_tryEachFall 109 = .ok (.iadd, 1) := by decide +kernel
theorem dX4_tryEachFall_110 : decode cX4_tryEachFall 110 = .ok (.iload_n 2, 1) := by decide +kernel
theorem dX4_tryEachFall_111 : decode cX4_tryEachFall 111 = .ok (.iconst 1, 1) := by decide +kernel
theorem dX4_tryEachFall_112 : decode cX4_tryEachFall 112 = .ok (.iadd, 1) := by decide +kernel
theorem dX4_tryEachFall_113 : decode cX4_tryEachFall 113 = .ok (.invokevirtual 58, 3) := by decide +kernel
theorem dX4_tryEachFall_116 : decode cX4_tryEachFall 116 = .ok (.iinc 4 1, 3) := by decide +kernel
theorem dX4_tryEachFall_119 : decode cX4_tryEachFall 119 = .ok (.goto (-81), 3) := by decide +kernel
theorem dX4_tryEachFall_122 : decode cX4_tryEachFall 122 = .ok (.return_, 1) := by decide +kernel
theorem dX4_mayBeBetter_0 : decode cX4_mayBeBetter 0 = .ok (.iconst 0, 1) := by decide +kernel
theorem dX4_mayBeBetter_1 : decode cX4_mayBeBetter 1 = .ok (.istore_n 1, 1) := by decide +kernel
theorem dX4_mayBeBetter_2 : decode cX4_mayBeBetter 2 = .ok (.iconst 0, 1) := by decide +kernel
theorem dX4_mayBeBetter_3 : decode cX4_mayBeBetter 3 = .ok (.istore_n 2, 1) := by decide +kernel
theorem dX4_mayBeBetter_4 : decode cX4_mayBeBetter 4 = .ok (.iload_n 2, 1) := by decide +kernel
theorem dX4_mayBeBetter_5 : decode cX4_mayBeBetter 5 = .ok (.aload_n 0, 1) := by decide +kernel
theorem dX4_mayBeBetter_6 : decode cX4_mayBeBetter 6 = .ok (.getfield 29, 3) := by decide +kernel
theorem dX4_mayBeBetter_9 : decode cX4_mayBeBetter 9 = .ok (.getfield 82, 3) := by decide +kernel
theorem dX4_mayBeBetter_12 : decode cX4_mayBeBetter 12 = .ok (.if_icmp .ge 50, 3) := by decide +kernel
theorem dX4_mayBeBetter_15 : decode cX4_mayBeBetter 15 = .ok (.iload_n 1, 1) := by decide +kernel
theorem dX4_mayBeBetter_16 : decode cX4_mayBeBetter 16 = .ok (.aload_n 0, 1) := by decide +kernel
theorem dX4_mayBeBetter_17 : decode cX4_mayBeBetter 17 = .ok (.getfield 29, 3) := by decide +kernel
theorem dX4_mayBeBetter_20 : decode cX4_mayBeBetter 20 = .ok (.iload_n 2, 1) := by decide +kernel
theorem dX4_mayBeBetter_21 : decode cX4_mayBeBetter 21 = .ok (.invokevirtual 94, 3) := by decide +kernel
theorem dX4_mayBeBetter_24 : decode cX4_mayBeBetter 24 = .ok (.ifCond .ne 25, 3) := by decide +kernel
theorem dX4_mayBeBetter_27 : decode cX4_mayBeBetter 27 = .ok (.aload_n 0, 1) := by decide +kernel
theorem dX4_mayBeBetter_28 : decode cX4_mayBeBetter 28 = .ok (.getfield 29, 3) := by decide +kernel
theorem dX4_mayBeBetter_31 : decode cX4_mayBeBetter 31 = .ok (.iload_n 2, 1) := by decide +kernel
theorem dX4_mayBeBetter_32 : decode cX4_mayBeBetter 32 = .ok (.invokevirtual 98, 3) := by decide +kernel
theorem dX4_mayBeBetter_35 : decode cX4_mayBeBetter 35 = .ok (.ifCond .eq 18, 3) := by decide +kernel
theorem dX4_mayBeBetter_38 : decode cX4_mayBeBetter 38 = .ok (.aload_n 0, 1) := by decide +kernel
theorem dX4_mayBeBetter_39 : decode cX4_mayBeBetter 39 = .ok (.getfield 29, 3) := by decide +kernel
theorem dX4_mayBeBetter_42 : decode cX4_mayBeBetter 42 = .ok (.iload_n 2, 1) := by decide +kernel
theorem dX4_mayBeBetter_43 : decode cX4_mayBeBetter 43 = .ok (.invokevirtual 101, 3) := by decide +kernel
theorem dX4_mayBeBetter_46 : decode cX4_mayBeBetter 46 = .ok (.ifCond .ne 7, 3) := by decide +kernel
theorem dX4_mayBeBetter_49 : decode cX4_mayBeBetter 49 = .ok (.iconst 1, 1) := by decide +kernel
theorem dX4_mayBeBetter_50 : decode cX4_mayBeBetter 50 = .ok (.goto 4, 3) := by decide +kernel
theorem dX4_mayBeBetter_53 : decode cX4_mayBeBetter 53 = .ok (.iconst 0, 1) := by decide +kernel
theorem dX4_mayBeBetter_54 : decode cX4_mayBeBetter 54 = .ok (.iadd, 1) := by decide +kernel
theorem dX4_mayBeBetter_55 : decode cX4_mayBeBetter 55 = .ok (.istore_n 1, 1) := by decide +kernel
theorem dX4_mayBeBetter_56 : decode cX4_mayBeBetter 56 = .ok (.iinc 2 1, 3) := by decide +kernel
theorem dX4_mayBeBetter_59 : decode cX4_mayBeBetter 59 = .ok (.goto (-55), 3) := by decide +kernel
theorem dX4_mayBeBetter_62 : decode cX4_mayBeBetter 62 = .ok (.iload_n 1, 1) := by decide +kernel
theorem dX4_mayBeBetter_63 : decode cX4_mayBeBetter 63 = .ok (.aload_n 0, 1) := by decide +kernel
theorem dX4_mayBeBetter_64 : decode cX4_mayBeBetter 64 = .ok (.getfield 33, 3) := by decide +kernel
theorem dX4_mayBeBetter_67 : decode cX4_mayBeBetter 67 = .ok (.if_icmp .gt 25, 3) := by decide +kernel
theorem dX4_mayBeBetter_70 : decode cX4_mayBeBetter 70 = .ok (.iload_n 1, 1) := by decide +kernel
theorem dX4_mayBeBetter_71 : decode cX4_mayBeBetter 71 = .ok (.aload_n 0, 1) := by decide +kernel
theorem dX4_mayBeBetter_72 : decode cX4_mayBeBetter 72 = .ok (.getfield 33, 3) := by decide +kernel
theorem dX4_mayBeBetter_75 : decode cX4_mayBeBetter 75 = .ok (.if_icmp .ne 21, 3) := by decide +kernel
theorem dX4_mayBeBetter_78 : decode cX4_mayBeBetter 78 = .ok (.aload_n 0, 1) := by decide +kernel
theorem dX4_mayBeBetter_79 : decode cX4_mayBeBetter 79 = .ok (.getfield 29, 3) := by decide +kernel
theorem dX4_mayBeBetter_82 : decode cX4_mayBeBetter 82 = .ok (.invokevirtual 104, 3) := by decide +kernel
theorem dX4_mayBeBetter_85 : decode cX4_mayBeBetter 85 = .ok (.aload_n 0, 1) := by decide +kernel
theorem dX4_mayBeBetter_86 : decode cX4_mayBeBetter 86 = .ok (.getfield 108, 3) := by decide +kernel
theorem dX4_mayBeBetter_89 : decode cX4_mayBeBetter 89 = .ok (.if_icmp .ge 7, 3) := by decide +kernel
theorem dX4_mayBeBetter_92 : decode cX4_mayBeBetter 92 = .ok (.iconst 1, 1) := by decide +kernel
theorem dX4_mayBeBetter_93 : decode cX4_mayBeBetter 93 = .ok (.goto 4, 3) := by decide +kernel
theorem dX4_mayBeBetter_96 : decode cX4_mayBeBetter 96 = .ok (.iconst 0, 1) := by decide +kernel
theorem dX4_mayBeBetter_97 : decode cX4_mayBeBetter 97 = .ok (.ireturn, 1) := by decide +kernel
theorem dX4_ownCount_0 : decode cX4_ownCount 0 = .ok (.iconst 0, 1) := by decide +kernel
theorem dX4_ownCount_1 : decode cX4_ownCount 1 = .ok (.istore_n 1, 1) := by decide +kernel
theorem dX4_ownCount_2 : decode cX4_ownCount 2 = .ok (.iconst 0, 1) := by decide +kernel
theorem dX4_ownCount_3 : decode cX4_ownCount 3 = .ok (.istore_n 2, 1) := by decide +kernel
theorem dX4_ownCount_4 : decode cX4_ownCount 4 = .ok (.iload_n 2, 1) := by decide +kernel
theorem dX4_ownCount_5 : decode cX4_ownCount 5 = .ok (.aload_n 0, 1) := by decide +kernel
theorem dX4_ownCount_6 : decode cX4_ownCount 6 = .ok (.getfield 29, 3) := by decide +kernel
theorem dX4_ownCount_9 : decode cX4_ownCount 9 = .ok (.getfield 82, 3) := by decide +kernel
theorem dX4_ownCount_12 : decode cX4_ownCount 12 = .ok (.if_icmp .ge 28, 3) := by decide +kernel
theorem dX4_ownCount_15 : decode cX4_ownCount 15 = .ok (.iload_n 1, 1) := by decide +kernel
theorem dX4_ownCount_16 : decode cX4_ownCount 16 = .ok (.aload_n 0, 1) := by decide +kernel
theorem dX4_ownCount_17 : decode cX4_ownCount 17 = .ok (.getfield 29, 3) := by decide +kernel
theorem dX4_ownCount_20 : decode cX4_ownCount 20 = .ok (.iload_n 2, 1) := by decide +kernel
theorem dX4_ownCount_21 : decode cX4_ownCount 21 = .ok (.invokevirtual 94, 3) := by decide +kernel
theorem dX4_ownCount_24 : decode cX4_ownCount 24 = .ok (.ifCond .eq 7, 3) := by decide +kernel
theorem dX4_ownCount_27 : decode cX4_ownCount 27 = .ok (.iconst 1, 1) := by decide +kernel
theorem dX4_ownCount_28 : decode cX4_ownCount 28 = .ok (.goto 4, 3) := by decide +kernel
theorem dX4_ownCount_31 : decode cX4_ownCount 31 = .ok (.iconst 0, 1) := by decide +kernel
theorem dX4_ownCount_32 : decode cX4_ownCount 32 = .ok (.iadd, 1) := by decide +kernel
theorem dX4_ownCount_33 : decode cX4_ownCount 33 = .ok (.istore_n 1, 1) := by decide +kernel
theorem dX4_ownCount_34 : decode cX4_ownCount 34 = .ok (.iinc 2 1, 3) := by decide +kernel
theorem dX4_ownCount_37 : decode cX4_ownCount 37 = .ok (.goto (-33), 3) := by decide +kernel
theorem dX4_ownCount_40 : decode cX4_ownCount 40 = .ok (.iload_n 1, 1) := by decide +kernel
theorem dX4_ownCount_41 : decode cX4_ownCount 41 = .ok (.ireturn, 1) := by decide +kernel
theorem dX4_weigh_0 : decode cX4_weigh 0 = .ok (.aload_n 0, 1) := by decide +kernel
theorem dX4_weigh_1 : decode cX4_weigh 1 = .ok (.invokevirtual 111, 3) := by decide +kernel
theorem dX4_weigh_4 : decode cX4_weigh 4 = .ok (.istore_n 2, 1) := by decide +kernel
theorem dX4_weigh_5 : decode cX4_weigh 5 = .ok (.aload_n 0, 1) := by decide +kernel
theorem dX4_weigh_6 : decode cX4_weigh 6 = .ok (.getfield 29, 3) := by decide +kernel
theorem dX4_weigh_9 : decode cX4_weigh 9 = .ok (.invokevirtual 104, 3) := by decide +kernel
theorem dX4_weigh_12 : decode cX4_weigh 12 = .ok (.istore_n 3, 1) := by decide +kernel
theorem dX4_weigh_13 : decode cX4_weigh 13 = .ok (.iload_n 2, 1) := by decide +kernel
theorem dX4_weigh_14 : decode cX4_weigh 14 = .ok (.aload_n 0, 1) := by decide +kernel
theorem dX4_weigh_15 : decode cX4_weigh 15 = .ok (.getfield 33, 3) := by decide +kernel
theorem dX4_weigh_18 : decode cX4_weigh 18 = .ok (.if_icmp .gt 19, 3) := by decide +kernel
theorem dX4_weigh_21 : decode cX4_weigh 21 = .ok (.iload_n 2, 1) := by decide +kernel
theorem dX4_weigh_22 : decode cX4_weigh 22 = .ok (.aload_n 0, 1) := by decide +kernel
theorem dX4_weigh_23 : decode cX4_weigh 23 = .ok (.getfield 33, 3) := by decide +kernel
theorem dX4_weigh_26 : decode cX4_weigh 26 = .ok (.if_icmp .ne 46, 3) := by decide +kernel
theorem dX4_weigh_29 : decode cX4_weigh 29 = .ok (.iload_n 3, 1) := by decide +kernel
theorem dX4_weigh_30 : decode cX4_weigh 30 = .ok (.aload_n 0, 1) := by decide +kernel
theorem dX4_weigh_31 : decode cX4_weigh 31 = .ok (.getfield 108, 3) := by decide +kernel
theorem dX4_weigh_34 : decode cX4_weigh 34 = .ok (.if_icmp .ge 38, 3) := by decide +kernel
theorem dX4_weigh_37 : decode cX4_weigh 37 = .ok (.aload_n 0, 1) := by decide +kernel
theorem dX4_weigh_38 : decode cX4_weigh 38 = .ok (.iload_n 2, 1) := by decide +kernel
theorem dX4_weigh_39 : decode cX4_weigh 39 = .ok (.putfield 33, 3) := by decide +kernel
theorem dX4_weigh_42 : decode cX4_weigh 42 = .ok (.aload_n 0, 1) := by decide +kernel
theorem dX4_weigh_43 : decode cX4_weigh 43 = .ok (.iload_n 3, 1) := by decide +kernel
theorem dX4_weigh_44 : decode cX4_weigh 44 = .ok (.putfield 108, 3) := by decide +kernel
theorem dX4_weigh_47 : decode cX4_weigh 47 = .ok (.aload_n 0, 1) := by decide +kernel
theorem dX4_weigh_48 : decode cX4_weigh 48 = .ok (.iload_n 1, 1) := by decide +kernel
theorem dX4_weigh_49 : decode cX4_weigh 49 = .ok (.bipush 6, 2) := by decide +kernel
theorem dX4_weigh_51 : decode cX4_weigh 51 = .ok (.invokestatic 114, 3) := by decide +kernel
theorem dX4_weigh_54 : decode cX4_weigh 54 = .ok (.putfield 120, 3) := by decide +kernel
theorem dX4_weigh_57 : decode cX4_weigh 57 = .ok (.aload_n 0, 1) := by decide +kernel
theorem dX4_weigh_58 : decode cX4_weigh 58 = .ok (.getfield 23, 3) := by decide +kernel
theorem dX4_weigh_61 : decode cX4_weigh 61 = .ok (.iconst 0, 1) := by decide +kernel
theorem dX4_weigh_62 : decode cX4_weigh 62 = .ok (.aload_n 0, 1) := by decide +kernel
theorem dX4_weigh_63 : decode cX4_weigh 63 = .ok (.getfield 26, 3) := by decide +kernel
theorem dX4_weigh_66 : decode cX4_weigh 66 = .ok (.iconst 0, 1) := by decide +kernel
theorem dX4_weigh_67 : decode cX4_weigh 67 = .ok (.bipush 6, 2) := by decide +kernel
theorem dX4_weigh_69 : decode cX4_weigh 69 = .ok (.invokestatic 48, 3) := by decide +kernel
theorem dX4_weigh_72 : decode cX4_weigh 72 = .ok (.return_, 1) := by decide +kernel
theorem dX4_bagInOrder_0 : decode cX4_bagInOrder 0 = .ok (.iconst 0, 1) := by decide +kernel
theorem dX4_bagInOrder_1 : decode cX4_bagInOrder 1 = .ok (.istore_n 3, 1) := by decide +kernel
theorem dX4_bagInOrder_2 : decode cX4_bagInOrder 2 = .ok (.iconst 0, 1) := by decide +kernel
theorem dX4_bagInOrder_3 : decode cX4_bagInOrder 3 = .ok (.istore 4, 2) := by decide +kernel
theorem dX4_bagInOrder_5 : decode cX4_bagInOrder 5 = .ok (.iload 4, 2) := by decide +kernel
theorem dX4_bagInOrder_7 : decode cX4_bagInOrder 7 = .ok (.aload_n 0, 1) := by decide +kernel
theorem dX4_bagInOrder_8 : decode cX4_bagInOrder 8 = .ok (.getfield 120, 3) := by decide +kernel
theorem dX4_bagInOrder_11 : decode cX4_bagInOrder 11 = .ok (.if_icmp .ge 21, 3) := by decide +kernel
theorem dX4_bagInOrder_14 : decode cX4_bagInOrder 14 = .ok (.iload_n 3, 1) := by decide +kernel
theorem dX4_bagInOrder_15 : decode cX4_bagInOrder 15 = .ok (.iconst 1, 1) := by decide +kernel
theorem dX4_bagInOrder_16 : decode cX4_bagInOrder 16 = .ok (.aload_n 0, 1) := by decide +kernel
theorem dX4_bagInOrder_17 : decode cX4_bagInOrder 17 = .ok (.getfield 26, 3) := by decide +kernel
theorem dX4_bagInOrder_20 : decode cX4_bagInOrder 20 = .ok (.iload 4, 2) := by decide +kernel
theorem dX4_bagInOrder_22 : decode cX4_bagInOrder 22 = .ok (.iaload, 1) := by decide +kernel
theorem dX4_bagInOrder_23 : decode cX4_bagInOrder 23 = .ok (.ishl, 1) := by decide +kernel
theorem dX4_bagInOrder_24 : decode cX4_bagInOrder 24 = .ok (.ior, 1) := by decide +kernel
theorem dX4_bagInOrder_25 : decode cX4_bagInOrder 25 = .ok (.istore_n 3, 1) := by decide +kernel
theorem dX4_bagInOrder_26 : decode cX4_bagInOrder 26 = .ok (.iinc 4 1, 3) := by decide +kernel
theorem dX4_bagInOrder_29 : decode cX4_bagInOrder 29 = .ok (.goto (-24), 3) := by decide +kernel
theorem dX4_bagInOrder_32 : decode cX4_bagInOrder 32 = .ok (.iconst 1, 1) := by decide +kernel
theorem dX4_bagInOrder_33 : decode cX4_bagInOrder 33 = .ok (.aload_n 1, 1) := by decide +kernel
theorem dX4_bagInOrder_34 : decode cX4_bagInOrder 34 = .ok (.getfield 82, 3) := by decide +kernel
theorem dX4_bagInOrder_37 : decode cX4_bagInOrder 37 = .ok (.ishl, 1) := by decide +kernel
theorem dX4_bagInOrder_38 : decode cX4_bagInOrder 38 = .ok (.iconst 1, 1) := by decide +kernel
theorem dX4_bagInOrder_39 : decode cX4_bagInOrder 39 = .ok (.isub, 1) := by decide +kernel
theorem dX4_bagInOrder_40 : decode cX4_bagInOrder 40 = .ok (.iload_n 3, 1) := by decide +kernel
theorem dX4_bagInOrder_41 : decode cX4_bagInOrder 41 = .ok (.iconst (-1), 1) := by decide +kernel
theorem dX4_bagInOrder_42 : decode cX4_bagInOrder 42 = .ok (.ixor, 1) := by decide +kernel
theorem dX4_bagInOrder_43 : decode cX4_bagInOrder 43 = .ok (.iand, 1) := by decide +kernel
theorem dX4_bagInOrder_44 : decode cX4_bagInOrder 44 = .ok (.istore 4, 2) := by decide +kernel
theorem dX4_bagInOrder_46 : decode cX4_bagInOrder 46 = .ok (.iload 4, 2) := by decide +kernel
theorem dX4_bagInOrder_48 : decode cX4_bagInOrder 48 = .ok (.aload_n 1, 1) := by decide +kernel
theorem dX4_bagInOrder_49 : decode cX4_bagInOrder 49 = .ok (.iconst 1, 1) := by decide +kernel
theorem dX4_bagInOrder_50 : decode cX4_bagInOrder 50 = .ok (.invokevirtual 78, 3) := by decide +kernel
theorem dX4_bagInOrder_53 : decode cX4_bagInOrder 53 = .ok (.iand, 1) := by decide +kernel
theorem dX4_bagInOrder_54 : decode cX4_bagInOrder 54 = .ok (.istore 5, 2) := by decide +kernel
theorem dX4_bagInOrder_56 : decode cX4_bagInOrder 56 = .ok (.iconst 0, 1) := by decide +kernel
theorem dX4_bagInOrder_57 : decode cX4_bagInOrder 57 = .ok (.istore 6, 2) := by decide +kernel
theorem dX4_bagInOrder_59 : decode cX4_bagInOrder 59 = .ok (.ldc 123, 2) := by decide +kernel
theorem dX4_bagInOrder_61 : decode cX4_bagInOrder 61 = .ok (.istore 7, 2) := by decide +kernel
theorem dX4_bagInOrder_63 : decode cX4_bagInOrder 63 = .ok (.iconst 0, 1) := by decide +kernel
theorem dX4_bagInOrder_64 : decode cX4_bagInOrder 64 = .ok (.istore 8, 2) := by decide +kernel
theorem dX4_bagInOrder_66 : decode cX4_bagInOrder 66 = .ok (.iload 8, 2) := by decide +kernel
theorem dX4_bagInOrder_68 : decode cX4_bagInOrder 68 = .ok (.iload_n 2, 1) := by decide +kernel
theorem dX4_bagInOrder_69 : decode cX4_bagInOrder 69 = .ok (.if_icmp .gt 110, 3) := by decide +kernel
theorem dX4_bagInOrder_72 : decode cX4_bagInOrder 72 = .ok (.iload 8, 2) := by decide +kernel
theorem dX4_bagInOrder_74 : decode cX4_bagInOrder 74 = .ok (.aload_n 1, 1) := by decide +kernel
theorem dX4_bagInOrder_75 : decode cX4_bagInOrder 75 = .ok (.getfield 82, 3) := by decide +kernel
theorem dX4_bagInOrder_78 : decode cX4_bagInOrder 78 = .ok (.if_icmp .ge 101, 3) := by decide +kernel
theorem dX4_bagInOrder_81 : decode cX4_bagInOrder 81 = .ok (.iload 6, 2) := by decide +kernel
theorem dX4_bagInOrder_83 : decode cX4_bagInOrder 83 = .ok (.aload_n 0, 1) := by decide +kernel
theorem dX4_bagInOrder_84 : decode cX4_bagInOrder 84 = .ok (.getfield 120, 3) := by decide +kernel
theorem dX4_bagInOrder_87 : decode cX4_bagInOrder 87 = .ok (.if_icmp .lt 7, 3) := by decide +kernel
theorem dX4_bagInOrder_90 : decode cX4_bagInOrder 90 = .ok (.iconst 1, 1) := by decide +kernel
theorem dX4_bagInOrder_91 : decode cX4_bagInOrder 91 = .ok (.goto 4, 3) := by decide +kernel
theorem dX4_bagInOrder_94 : decode cX4_bagInOrder 94 = .ok (.iconst 0, 1) := by decide +kernel
theorem dX4_bagInOrder_95 : decode cX4_bagInOrder 95 = .ok (.istore 9, 2) := by decide +kernel
theorem dX4_bagInOrder_97 : decode cX4_bagInOrder 97 = .ok (.iload 9, 2) := by decide +kernel
theorem dX4_bagInOrder_99 : decode cX4_bagInOrder 99 = .ok (.ifCond .eq 8, 3) := by decide +kernel
theorem dX4_bagInOrder_102 : decode cX4_bagInOrder 102 = .ok (.iload 4, 2) := by decide +kernel
theorem dX4_bagInOrder_104 : decode cX4_bagInOrder 104 = .ok (.goto 10, 3) := by decide +kernel
theorem dX4_bagInOrder_107 : decode cX4_bagInOrder 107 = .ok (.iload 4, 2) := by decide +kernel
theorem dX4_bagInOrder_109 : decode cX4_bagInOrder 109 = .ok (.iload 5, 2) := by decide +kernel
theorem dX4_bagInOrder_111 : decode cX4_bagInOrder 111 = .ok (.iconst (-1), 1) := by decide +kernel
theorem dX4_bagInOrder_112 : decode cX4_bagInOrder 112 = .ok (.ixor, 1) := by decide +kernel
theorem dX4_bagInOrder_113 : decode cX4_bagInOrder 113 = .ok (.iand, 1) := by decide +kernel
theorem dX4_bagInOrder_114 : decode cX4_bagInOrder 114 = .ok (.invokestatic 124, 3) := by decide +kernel
theorem dX4_bagInOrder_117 : decode cX4_bagInOrder 117 = .ok (.istore 10, 2) := by decide +kernel
theorem dX4_bagInOrder_119 : decode cX4_bagInOrder 119 = .ok (.iload 9, 2) := by decide +kernel
theorem dX4_bagInOrder_121 : decode cX4_bagInOrder 121 = .ok (.ifCond .ne 22, 3) := by decide +kernel
theorem dX4_bagInOrder_124 : decode cX4_bagInOrder 124 = .ok (.iload 10, 2) := by decide +kernel
theorem dX4_bagInOrder_126 : decode cX4_bagInOrder 126 = .ok (.ldc 123, 2) := by decide +kernel
theorem dX4_bagInOrder_128 : decode cX4_bagInOrder 128 = .ok (.if_icmp .eq 33, 3) := by decide +kernel
theorem dX4_bagInOrder_131 : decode cX4_bagInOrder 131 = .ok (.iload 10, 2) := by decide +kernel
theorem dX4_bagInOrder_133 : decode cX4_bagInOrder 133 = .ok (.aload_n 0, 1) := by decide +kernel
theorem dX4_bagInOrder_134 : decode cX4_bagInOrder 134 = .ok (.getfield 26, 3) := by decide +kernel
theorem dX4_bagInOrder_137 : decode cX4_bagInOrder 137 = .ok (.iload 6, 2) := by decide +kernel
theorem dX4_bagInOrder_139 : decode cX4_bagInOrder 139 = .ok (.iaload, 1) := by decide +kernel
theorem dX4_bagInOrder_140 : decode cX4_bagInOrder 140 = .ok (.if_icmp .ge 21, 3) := by decide +kernel
theorem dX4_bagInOrder_143 : decode cX4_bagInOrder 143 = .ok (.iload 10, 2) := by decide +kernel
theorem dX4_bagInOrder_145 : decode cX4_bagInOrder 145 = .ok (.istore 7, 2) := by decide +kernel
theorem dX4_bagInOrder_147 : decode cX4_bagInOrder 147 = .ok (.iload 4, 2) := by decide +kernel
theorem dX4_bagInOrder_149 : decode cX4_bagInOrder 149 = .ok (.iconst 1, 1) := by decide +kernel
theorem dX4_bagInOrder_150 : decode cX4_bagInOrder 150 = .ok (.iload 10, 2) := by decide +kernel
theorem dX4_bagInOrder_152 : decode cX4_bagInOrder 152 = .ok (.ishl, 1) := by decide +kernel
theorem dX4_bagInOrder_153 : decode cX4_bagInOrder 153 = .ok (.iconst (-1), 1) := by decide +kernel
theorem dX4_bagInOrder_154 : decode cX4_bagInOrder 154 = .ok (.ixor, 1) := by decide +kernel
theorem dX4_bagInOrder_155 : decode cX4_bagInOrder 155 = .ok (.iand, 1) := by decide +kernel
theorem dX4_bagInOrder_156 : decode cX4_bagInOrder 156 = .ok (.istore 4, 2) := by decide +kernel
theorem dX4_bagInOrder_158 : decode cX4_bagInOrder 158 = .ok (.goto 15, 3) := by decide +kernel
theorem dX4_bagInOrder_161 : decode cX4_bagInOrder 161 = .ok (.aload_n 0, 1) := by decide +kernel
theorem dX4_bagInOrder_162 : decode cX4_bagInOrder 162 = .ok (.getfield 26, 3) := by decide +kernel
theorem dX4_bagInOrder_165 : decode cX4_bagInOrder 165 = .ok (.iload 6, 2) := by decide +kernel
theorem dX4_bagInOrder_167 : decode cX4_bagInOrder 167 = .ok (.iaload, 1) := by decide +kernel
theorem dX4_bagInOrder_168 : decode cX4_bagInOrder 168 = .ok (.istore 7, 2) := by decide +kernel
theorem dX4_bagInOrder_170 : decode cX4_bagInOrder 170 = .ok (.iinc 6 1, 3) := by decide +kernel
theorem dX4_bagInOrder_173 : decode cX4_bagInOrder 173 = .ok (.iinc 8 1, 3) := by decide +kernel
theorem dX4_bagInOrder_176 : decode cX4_bagInOrder 176 = .ok (.goto (-110), 3) := by decide +kernel
theorem dX4_bagInOrder_179 : decode cX4_bagInOrder 179 = .ok (.iload 7, 2) := by decide +kernel
theorem dX4_bagInOrder_181 : decode cX4_bagInOrder 181 = .ok (.ireturn, 1) := by decide +kernel
theorem dX4_lowest_0 : decode cX4_lowest 0 = .ok (.iconst 0, 1) := by decide +kernel
theorem dX4_lowest_1 : decode cX4_lowest 1 = .ok (.istore_n 1, 1) := by decide +kernel
theorem dX4_lowest_2 : decode cX4_lowest 2 = .ok (.iload_n 1, 1) := by decide +kernel
theorem dX4_lowest_3 : decode cX4_lowest 3 = .ok (.bipush 6, 2) := by decide +kernel
theorem dX4_lowest_5 : decode cX4_lowest 5 = .ok (.if_icmp .ge 20, 3) := by decide +kernel
theorem dX4_lowest_8 : decode cX4_lowest 8 = .ok (.iload_n 0, 1) := by decide +kernel
theorem dX4_lowest_9 : decode cX4_lowest 9 = .ok (.iload_n 1, 1) := by decide +kernel
theorem dX4_lowest_10 : decode cX4_lowest 10 = .ok (.ishr, 1) := by decide +kernel
theorem dX4_lowest_11 : decode cX4_lowest 11 = .ok (.iconst 1, 1) := by decide +kernel
theorem dX4_lowest_12 : decode cX4_lowest 12 = .ok (.iand, 1) := by decide +kernel
theorem dX4_lowest_13 : decode cX4_lowest 13 = .ok (.iconst 1, 1) := by decide +kernel
theorem dX4_lowest_14 : decode cX4_lowest 14 = .ok (.if_icmp .ne 5, 3) := by decide +kernel
theorem dX4_lowest_17 : decode cX4_lowest 17 = .ok (.iload_n 1, 1) := by decide +kernel
theorem dX4_lowest_18 : decode cX4_lowest 18 = .ok (.ireturn, 1) := by decide +kernel
theorem dX4_lowest_19 : decode cX4_lowest 19 = .ok (.iinc 1 1, 3) := by decide +kernel
theorem dX4_lowest_22 : decode cX4_lowest 22 = .ok (.goto (-20), 3) := by decide +kernel
theorem dX4_lowest_25 : decode cX4_lowest 25 = .ok (.ldc 123, 2) := by decide +kernel
theorem dX4_lowest_27 : decode cX4_lowest 27 = .ok (.ireturn, 1) := by decide +kernel
