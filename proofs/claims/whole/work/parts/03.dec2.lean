theorem dX7_init_0 : decode cX7_init 0 = .ok (.aload_n 0, 1) := by decide +kernel
theorem dX7_init_1 : decode cX7_init 1 = .ok (.invokespecial 1, 3) := by decide +kernel
theorem dX7_init_4 : decode cX7_init 4 = .ok (.aload_n 0, 1) := by decide +kernel
theorem dX7_init_5 : decode cX7_init 5 = .ok (.new 7, 3) := by decide +kernel
theorem dX7_init_8 : decode cX7_init 8 = .ok (.dup, 1) := by decide +kernel
theorem dX7_init_9 : decode cX7_init 9 = .ok (.invokespecial 9, 3) := by decide +kernel
theorem dX7_init_12 : decode cX7_init 12 = .ok (.putfield 10, 3) := by decide +kernel
theorem dX7_init_15 : decode cX7_init 15 = .ok (.aload_n 0, 1) := by decide +kernel
theorem dX7_init_16 : decode cX7_init 16 = .ok (.new 16, 3) := by decide +kernel
theorem dX7_init_19 : decode cX7_init 19 = .ok (.dup, 1) := by decide +kernel
theorem dX7_init_20 : decode cX7_init 20 = .ok (.invokespecial 18, 3) := by decide +kernel
theorem dX7_init_23 : decode cX7_init 23 = .ok (.putfield 19, 3) := by decide +kernel
theorem dX7_init_26 : decode cX7_init 26 = .ok (.aload_n 0, 1) := by decide +kernel
theorem dX7_init_27 : decode cX7_init 27 = .ok (.new 23, 3) := by decide +kernel
theorem dX7_init_30 : decode cX7_init 30 = .ok (.dup, 1) := by decide +kernel
theorem dX7_init_31 : decode cX7_init 31 = .ok (.invokespecial 25, 3) := by decide +kernel
theorem dX7_init_34 : decode cX7_init 34 = .ok (.putfield 26, 3) := by decide +kernel
theorem dX7_init_37 : decode cX7_init 37 = .ok (.aload_n 0, 1) := by decide +kernel
theorem dX7_init_38 : decode cX7_init 38 = .ok (.new 23, 3) := by decide +kernel
theorem dX7_init_41 : decode cX7_init 41 = .ok (.dup, 1) := by decide +kernel
theorem dX7_init_42 : decode cX7_init 42 = .ok (.invokespecial 25, 3) := by decide +kernel
theorem dX7_init_45 : decode cX7_init 45 = .ok (.putfield 30, 3) := by decide +kernel
theorem dX7_init_48 : decode cX7_init 48 = .ok (.aload_n 0, 1) := by decide +kernel
theorem dX7_init_49 : decode cX7_init 49 = .ok (.new 33, 3) := by decide +kernel
theorem dX7_init_52 : decode cX7_init 52 = .ok (.dup, 1) := by decide +kernel
theorem dX7_init_53 : decode cX7_init 53 = .ok (.invokespecial 35, 3) := by decide +kernel
theorem dX7_init_56 : decode cX7_init 56 = .ok (.putfield 36, 3) := by decide +kernel
theorem dX7_init_59 : decode cX7_init 59 = .ok (.aload_n 0, 1) := by decide +kernel
theorem dX7_init_60 : decode cX7_init 60 = .ok (.new 40, 3) := by decide +kernel
theorem dX7_init_63 : decode cX7_init 63 = .ok (.dup, 1) := by decide +kernel
theorem dX7_init_64 : decode cX7_init 64 = .ok (.aload_n 0, 1) := by decide +kernel
theorem dX7_init_65 : decode cX7_init 65 = .ok (.getfield 26, 3) := by decide +kernel
theorem dX7_init_68 : decode cX7_init 68 = .ok (.aload_n 0, 1) := by decide +kernel
theorem dX7_init_69 : decode cX7_init 69 = .ok (.getfield 30, 3) := by decide +kernel
theorem dX7_init_72 : decode cX7_init 72 = .ok (.invokespecial 42, 3) := by decide +kernel
theorem dX7_init_75 : decode cX7_init 75 = .ok (.putfield 45, 3) := by decide +kernel
theorem dX7_init_78 : decode cX7_init 78 = .ok (.aload_n 0, 1) := by decide +kernel
theorem dX7_init_79 : decode cX7_init 79 = .ok (.new 49, 3) := by decide +kernel
theorem dX7_init_82 : decode cX7_init 82 = .ok (.dup, 1) := by decide +kernel
theorem dX7_init_83 : decode cX7_init 83 = .ok (.aload_n 0, 1) := by decide +kernel
theorem dX7_init_84 : decode cX7_init 84 = .ok (.getfield 30, 3) := by decide +kernel
theorem dX7_init_87 : decode cX7_init 87 = .ok (.invokespecial 51, 3) := by decide +kernel
theorem dX7_init_90 : decode cX7_init 90 = .ok (.putfield 54, 3) := by decide +kernel
theorem dX7_init_93 : decode cX7_init 93 = .ok (.aload_n 0, 1) := by decide +kernel
theorem dX7_init_94 : decode cX7_init 94 = .ok (.new 58, 3) := by decide +kernel
theorem dX7_init_97 : decode cX7_init 97 = .ok (.dup, 1) := by decide +kernel
theorem dX7_init_98 : decode cX7_init 98 = .ok (.aload_n 0, 1) := by decide +kernel
theorem dX7_init_99 : decode cX7_init 99 = .ok (.getfield 26, 3) := by decide +kernel
theorem dX7_init_102 : decode cX7_init 102 = .ok (.invokespecial 60, 3) := by decide +kernel
theorem dX7_init_105 : decode cX7_init 105 = .ok (.putfield 61, 3) := by decide +kernel
theorem dX7_init_108 : decode cX7_init 108 = .ok (.aload_n 0, 1) := by decide +kernel
theorem dX7_init_109 : decode cX7_init 109 = .ok (.bipush 80, 2) := by decide +kernel
theorem dX7_init_111 : decode cX7_init 111 = .ok (.newarray .int, 2) := by decide +kernel
theorem dX7_init_113 : decode cX7_init 113 = .ok (.putfield 65, 3) := by decide +kernel
theorem dX7_init_116 : decode cX7_init 116 = .ok (.return_, 1) := by decide +kernel
theorem dX7_row_0 : decode cX7_row 0 = .ok (.aload_n 0, 1) := by decide +kernel
theorem dX7_row_1 : decode cX7_row 1 = .ok (.getfield 10, 3) := by decide +kernel
theorem dX7_row_4 : decode cX7_row 4 = .ok (.iload_n 1, 1) := by decide +kernel
theorem dX7_row_5 : decode cX7_row 5 = .ok (.invokevirtual 69, 3) := by decide +kernel
theorem dX7_row_8 : decode cX7_row 8 = .ok (.ifCond .eq 18, 3) := by decide +kernel
theorem dX7_row_11 : decode cX7_row 11 = .ok (.iload_n 2, 1) := by decide +kernel
theorem dX7_row_12 : decode cX7_row 12 = .ok (.ifCond .lt 14, 3) := by decide +kernel
theorem dX7_row_15 : decode cX7_row 15 = .ok (.iload_n 2, 1) := by decide +kernel
theorem dX7_row_16 : decode cX7_row 16 = .ok (.iconst 3, 1) := by decide +kernel
theorem dX7_row_17 : decode cX7_row 17 = .ok (.if_icmp .ge 9, 3) := by decide +kernel
theorem dX7_row_20 : decode cX7_row 20 = .ok (.iload_n 3, 1) := by decide +kernel
theorem dX7_row_21 : decode cX7_row 21 = .ok (.bipush 40, 2) := by decide +kernel
theorem dX7_row_23 : decode cX7_row 23 = .ok (.if_icmp .le 6, 3) := by decide +kernel
theorem dX7_row_26 : decode cX7_row 26 = .ok (.ldc 73, 2) := by decide +kernel
theorem dX7_row_28 : decode cX7_row 28 = .ok (.ireturn, 1) := by decide +kernel
theorem dX7_row_29 : decode cX7_row 29 = .ok (.iload_n 3, 1) := by decide +kernel
theorem dX7_row_30 : decode cX7_row 30 = .ok (.ifCond .ge 9, 3) := by decide +kernel
theorem dX7_row_33 : decode cX7_row 33 = .ok (.aload_n 0, 1) := by decide +kernel
theorem dX7_row_34 : decode cX7_row 34 = .ok (.iconst 4, 1) := by decide +kernel
theorem dX7_row_35 : decode cX7_row 35 = .ok (.invokevirtual 74, 3) := by decide +kernel
theorem dX7_row_38 : decode cX7_row 38 = .ok (.ireturn, 1) := by decide +kernel
theorem dX7_row_39 : decode cX7_row 39 = .ok (.aload_n 0, 1) := by decide +kernel
theorem dX7_row_40 : decode cX7_row 40 = .ok (.getfield 10, 3) := by decide +kernel
theorem dX7_row_43 : decode cX7_row 43 = .ok (.iload_n 1, 1) := by decide +kernel
theorem dX7_row_44 : decode cX7_row 44 = .ok (.iload_n 2, 1) := by decide +kernel
theorem dX7_row_45 : decode cX7_row 45 = .ok (.iload_n 3, 1) := by decide +kernel
theorem dX7_row_46 : decode cX7_row 46 = .ok (.invokevirtual 78, 3) := by decide +kernel
theorem dX7_row_49 : decode cX7_row 49 = .ok (.aload_n 0, 1) := by decide +kernel
theorem dX7_row_50 : decode cX7_row 50 = .ok (.iload_n 3, 1) := by decide +kernel
theorem dX7_row_51 : decode cX7_row 51 = .ok (.invokevirtual 82, 3) := by decide +kernel
theorem dX7_row_54 : decode cX7_row 54 = .ok (.ireturn, 1) := by decide +kernel
theorem dX7_set_0 : decode cX7_set 0 = .ok (.aload_n 0, 1) := by decide +kernel
theorem dX7_set_1 : decode cX7_set 1 = .ok (.getfield 10, 3) := by decide +kernel
theorem dX7_set_4 : decode cX7_set 4 = .ok (.iload_n 1, 1) := by decide +kernel
theorem dX7_set_5 : decode cX7_set 5 = .ok (.invokevirtual 69, 3) := by decide +kernel
theorem dX7_set_8 : decode cX7_set 8 = .ok (.ifCond .ne 6, 3) := by decide +kernel
theorem dX7_set_11 : decode cX7_set 11 = .ok (.ldc 73, 2) := by decide +kernel
theorem dX7_set_13 : decode cX7_set 13 = .ok (.ireturn, 1) := by decide +kernel
theorem dX7_set_14 : decode cX7_set 14 = .ok (.aload_n 0, 1) := by decide +kernel
theorem dX7_set_15 : decode cX7_set 15 = .ok (.getfield 10, 3) := by decide +kernel
theorem dX7_set_18 : decode cX7_set 18 = .ok (.iload_n 1, 1) := by decide +kernel
theorem dX7_set_19 : decode cX7_set 19 = .ok (.invokevirtual 85, 3) := by decide +kernel
theorem dX7_set_22 : decode cX7_set 22 = .ok (.ifCond .eq 9, 3) := by decide +kernel
theorem dX7_set_25 : decode cX7_set 25 = .ok (.aload_n 0, 1) := by decide +kernel
theorem dX7_set_26 : decode cX7_set 26 = .ok (.iconst 1, 1) := by decide +kernel
theorem dX7_set_27 : decode cX7_set 27 = .ok (.invokevirtual 74, 3) := by decide +kernel
theorem dX7_set_30 : decode cX7_set 30 = .ok (.ireturn, 1) := by decide +kernel
theorem dX7_set_31 : decode cX7_set 31 = .ok (.aload_n 0, 1) := by decide +kernel
theorem dX7_set_32 : decode cX7_set 32 = .ok (.getfield 10, 3) := by decide +kernel
theorem dX7_set_35 : decode cX7_set 35 = .ok (.iload_n 1, 1) := by decide +kernel
theorem dX7_set_36 : decode cX7_set 36 = .ok (.iload_n 2, 1) := by decide +kernel
theorem dX7_set_37 : decode cX7_set 37 = .ok (.iconst 1, 1) := by decide +kernel
theorem dX7_set_38 : decode cX7_set 38 = .ok (.invokevirtual 88, 3) := by decide +kernel
theorem dX7_set_41 : decode cX7_set 41 = .ok (.ifCond .ne 9, 3) := by decide +kernel
theorem dX7_set_44 : decode cX7_set 44 = .ok (.aload_n 0, 1) := by decide +kernel
theorem dX7_set_45 : decode cX7_set 45 = .ok (.iconst 2, 1) := by decide +kernel
theorem dX7_set_46 : decode cX7_set 46 = .ok (.invokevirtual 74, 3) := by decide +kernel
theorem dX7_set_49 : decode cX7_set 49 = .ok (.ireturn, 1) := by decide +kernel
theorem dX7_set_50 : decode cX7_set 50 = .ok (.aload_n 0, 1) := by decide +kernel
theorem dX7_set_51 : decode cX7_set 51 = .ok (.aload_n 0, 1) := by decide +kernel
theorem dX7_set_52 : decode cX7_set 52 = .ok (.getfield 10, 3) := by decide +kernel
theorem dX7_set_55 : decode cX7_set 55 = .ok (.iload_n 1, 1) := by decide +kernel
theorem dX7_set_56 : decode cX7_set 56 = .ok (.iload_n 2, 1) := by decide +kernel
theorem dX7_set_57 : decode cX7_set 57 = .ok (.iload_n 3, 1) := by decide +kernel
theorem dX7_set_58 : decode cX7_set 58 = .ok (.invokevirtual 92, 3) := by decide +kernel
theorem dX7_set_61 : decode cX7_set 61 = .ok (.invokevirtual 82, 3) := by decide +kernel
theorem dX7_set_64 : decode cX7_set 64 = .ok (.ireturn, 1) := by decide +kernel
theorem dX7_copy_0 : decode cX7_copy 0 = .ok (.aload_n 0, 1) := by decide +kernel
theorem dX7_copy_1 : decode cX7_copy 1 = .ok (.getfield 10, 3) := by decide +kernel
theorem dX7_copy_4 : decode cX7_copy 4 = .ok (.iload_n 1, 1) := by decide +kernel
theorem dX7_copy_5 : decode cX7_copy 5 = .ok (.invokevirtual 69, 3) := by decide +kernel
theorem dX7_copy_8 : decode cX7_copy 8 = .ok (.ifCond .eq 14, 3) := by decide +kernel
theorem dX7_copy_11 : decode cX7_copy 11 = .ok (.aload_n 0, 1) := by decide +kernel
theorem dX7_copy_12 : decode cX7_copy 12 = .ok (.getfield 10, 3) := by decide +kernel
theorem dX7_copy_15 : decode cX7_copy 15 = .ok (.iload_n 3, 1) := by decide +kernel
theorem dX7_copy_16 : decode cX7_copy 16 = .ok (.invokevirtual 69, 3) := by decide +kernel
theorem dX7_copy_19 : decode cX7_copy 19 = .ok (.ifCond .ne 6, 3) := by decide +kernel
theorem dX7_copy_22 : decode cX7_copy 22 = .ok (.ldc 73, 2) := by decide +kernel
theorem dX7_copy_24 : decode cX7_copy 24 = .ok (.ireturn, 1) := by decide +kernel
theorem dX7_copy_25 : decode cX7_copy 25 = .ok (.aload_n 0, 1) := by decide +kernel
theorem dX7_copy_26 : decode cX7_copy 26 = .ok (.getfield 10, 3) := by decide +kernel
theorem dX7_copy_29 : decode cX7_copy 29 = .ok (.iload_n 1, 1) := by decide +kernel
theorem dX7_copy_30 : decode cX7_copy 30 = .ok (.invokevirtual 85, 3) := by decide +kernel
theorem dX7_copy_33 : decode cX7_copy 33 = .ok (.ifCond .ne 14, 3) := by decide +kernel
theorem dX7_copy_36 : decode cX7_copy 36 = .ok (.aload_n 0, 1) := by decide +kernel
theorem dX7_copy_37 : decode cX7_copy 37 = .ok (.getfield 10, 3) := by decide +kernel
theorem dX7_copy_40 : decode cX7_copy 40 = .ok (.iload_n 3, 1) := by decide +kernel
theorem dX7_copy_41 : decode cX7_copy 41 = .ok (.invokevirtual 85, 3) := by decide +kernel
theorem dX7_copy_44 : decode cX7_copy 44 = .ok (.ifCond .eq 9, 3) := by decide +kernel
theorem dX7_copy_47 : decode cX7_copy 47 = .ok (.aload_n 0, 1) := by decide +kernel
theorem dX7_copy_48 : decode cX7_copy 48 = .ok (.iconst 1, 1) := by decide +kernel
theorem dX7_copy_49 : decode cX7_copy 49 = .ok (.invokevirtual 74, 3) := by decide +kernel
theorem dX7_copy_52 : decode cX7_copy 52 = .ok (.ireturn, 1) := by decide +kernel
theorem dX7_copy_53 : decode cX7_copy 53 = .ok (.aload_n 0, 1) := by decide +kernel
theorem dX7_copy_54 : decode cX7_copy 54 = .ok (.getfield 10, 3) := by decide +kernel
theorem dX7_copy_57 : decode cX7_copy 57 = .ok (.iload_n 1, 1) := by decide +kernel
theorem dX7_copy_58 : decode cX7_copy 58 = .ok (.invokevirtual 96, 3) := by decide +kernel
theorem dX7_copy_61 : decode cX7_copy 61 = .ok (.aload_n 0, 1) := by decide +kernel
theorem dX7_copy_62 : decode cX7_copy 62 = .ok (.getfield 10, 3) := by decide +kernel
theorem dX7_copy_65 : decode cX7_copy 65 = .ok (.iload_n 3, 1) := by decide +kernel
theorem dX7_copy_66 : decode cX7_copy 66 = .ok (.invokevirtual 96, 3) := by decide +kernel
theorem dX7_copy_69 : decode cX7_copy 69 = .ok (.if_icmp .eq 9, 3) := by decide +kernel
theorem dX7_copy_72 : decode cX7_copy 72 = .ok (.aload_n 0, 1) := by decide +kernel
theorem dX7_copy_73 : decode cX7_copy 73 = .ok (.iconst 5, 1) := by decide +kernel
theorem dX7_copy_74 : decode cX7_copy 74 = .ok (.invokevirtual 74, 3) := by decide +kernel
theorem dX7_copy_77 : decode cX7_copy 77 = .ok (.ireturn, 1) := by decide +kernel
theorem dX7_copy_78 : decode cX7_copy 78 = .ok (.aload_n 0, 1) := by decide +kernel
theorem dX7_copy_79 : decode cX7_copy 79 = .ok (.getfield 10, 3) := by decide +kernel
theorem dX7_copy_82 : decode cX7_copy 82 = .ok (.iload_n 1, 1) := by decide +kernel
theorem dX7_copy_83 : decode cX7_copy 83 = .ok (.iload_n 2, 1) := by decide +kernel
theorem dX7_copy_84 : decode cX7_copy 84 = .ok (.iload 5, 2) := by decide +kernel
theorem dX7_copy_86 : decode cX7_copy 86 = .ok (.invokevirtual 88, 3) := by decide +kernel
theorem dX7_copy_89 : decode cX7_copy 89 = .ok (.ifCond .eq 18, 3) := by decide +kernel
theorem dX7_copy_92 : decode cX7_copy 92 = .ok (.aload_n 0, 1) := by decide +kernel
theorem dX7_copy_93 : decode cX7_copy 93 = .ok (.getfield 10, 3) := by decide +kernel
theorem dX7_copy_96 : decode cX7_copy 96 = .ok (.iload_n 3, 1) := by decide +kernel
theorem dX7_copy_97 : decode cX7_copy 97 = .ok (.iload 4, 2) := by decide +kernel
theorem dX7_copy_99 : decode cX7_copy 99 = .ok (.iload 5, 2) := by decide +kernel
theorem dX7_copy_101 : decode cX7_copy 101 = .ok (.invokevirtual 88, 3) := by decide +kernel
theorem dX7_copy_104 : decode cX7_copy 104 = .ok (.ifCond .ne 9, 3) := by decide +kernel
theorem dX7_copy_107 : decode cX7_copy 107 = .ok (.aload_n 0, 1) := by decide +kernel
theorem dX7_copy_108 : decode cX7_copy 108 = .ok (.iconst 2, 1) := by decide +kernel
theorem dX7_copy_109 : decode cX7_copy 109 = .ok (.invokevirtual 74, 3) := by decide +kernel
theorem dX7_copy_112 : decode cX7_copy 112 = .ok (.ireturn, 1) := by decide +kernel
theorem dX7_copy_113 : decode cX7_copy 113 = .ok (.aload_n 0, 1) := by decide +kernel
theorem dX7_copy_114 : decode cX7_copy 114 = .ok (.getfield 10, 3) := by decide +kernel
theorem dX7_copy_117 : decode cX7_copy 117 = .ok (.iload_n 1, 1) := by decide +kernel
theorem dX7_copy_118 : decode cX7_copy 118 = .ok (.iload_n 2, 1) := by decide +kernel
theorem dX7_copy_119 : decode cX7_copy 119 = .ok (.iload_n 3, 1) := by decide +kernel
theorem dX7_copy_120 : decode cX7_copy 120 = .ok (.iload 4, 2) := by decide +kernel
theorem dX7_copy_122 : decode cX7_copy 122 = .ok (.iload 5, 2) := by decide +kernel
theorem dX7_copy_124 : decode cX7_copy 124 = .ok (.invokevirtual 99, 3) := by decide +kernel
theorem dX7_copy_127 : decode cX7_copy 127 = .ok (.aload_n 0, 1) := by decide +kernel
theorem dX7_copy_128 : decode cX7_copy 128 = .ok (.iload 5, 2) := by decide +kernel
theorem dX7_copy_130 : decode cX7_copy 130 = .ok (.invokevirtual 82, 3) := by decide +kernel
theorem dX7_copy_133 : decode cX7_copy 133 = .ok (.ireturn, 1) := by decide +kernel
theorem dX7_drop_0 : decode cX7_drop 0 = .ok (.aload_n 0, 1) := by decide +kernel
theorem dX7_drop_1 : decode cX7_drop 1 = .ok (.getfield 10, 3) := by decide +kernel
theorem dX7_drop_4 : decode cX7_drop 4 = .ok (.iload_n 1, 1) := by decide +kernel
theorem dX7_drop_5 : decode cX7_drop 5 = .ok (.invokevirtual 69, 3) := by decide +kernel
theorem dX7_drop_8 : decode cX7_drop 8 = .ok (.ifCond .ne 6, 3) := by decide +kernel
theorem dX7_drop_11 : decode cX7_drop 11 = .ok (.ldc 73, 2) := by decide +kernel
theorem dX7_drop_13 : decode cX7_drop 13 = .ok (.ireturn, 1) := by decide +kernel
theorem dX7_drop_14 : decode cX7_drop 14 = .ok (.aload_n 0, 1) := by decide +kernel
theorem dX7_drop_15 : decode cX7_drop 15 = .ok (.getfield 10, 3) := by decide +kernel
theorem dX7_drop_18 : decode cX7_drop 18 = .ok (.iload_n 1, 1) := by decide +kernel
theorem dX7_drop_19 : decode cX7_drop 19 = .ok (.invokevirtual 85, 3) := by decide +kernel
theorem dX7_drop_22 : decode cX7_drop 22 = .ok (.ifCond .eq 9, 3) := by decide +kernel
theorem dX7_drop_25 : decode cX7_drop 25 = .ok (.aload_n 0, 1) := by decide +kernel
theorem dX7_drop_26 : decode cX7_drop 26 = .ok (.iconst 1, 1) := by decide +kernel
theorem dX7_drop_27 : decode cX7_drop 27 = .ok (.invokevirtual 74, 3) := by decide +kernel
theorem dX7_drop_30 : decode cX7_drop 30 = .ok (.ireturn, 1) := by decide +kernel
theorem dX7_drop_31 : decode cX7_drop 31 = .ok (.aload_n 0, 1) := by decide +kernel
theorem dX7_drop_32 : decode cX7_drop 32 = .ok (.aload_n 0, 1) := by decide +kernel
theorem dX7_drop_33 : decode cX7_drop 33 = .ok (.getfield 10, 3) := by decide +kernel
theorem dX7_drop_36 : decode cX7_drop 36 = .ok (.iload_n 1, 1) := by decide +kernel
theorem dX7_drop_37 : decode cX7_drop 37 = .ok (.invokevirtual 103, 3) := by decide +kernel
theorem dX7_drop_40 : decode cX7_drop 40 = .ok (.invokevirtual 82, 3) := by decide +kernel
theorem dX7_drop_43 : decode cX7_drop 43 = .ok (.ireturn, 1) := by decide +kernel
theorem dX7_found_0 : decode cX7_found 0 = .ok (.aload_n 0, 1) := by decide +kernel
theorem dX7_found_1 : decode cX7_found 1 = .ok (.iload_n 1, 1) := by decide +kernel
theorem dX7_found_2 : decode cX7_found 2 = .ok (.putfield 106, 3) := by decide +kernel
theorem dX7_found_5 : decode cX7_found 5 = .ok (.ldc 110, 2) := by decide +kernel
theorem dX7_found_7 : decode cX7_found 7 = .ok (.iload_n 1, 1) := by decide +kernel
theorem dX7_found_8 : decode cX7_found 8 = .ok (.isub, 1) := by decide +kernel
theorem dX7_found_9 : decode cX7_found 9 = .ok (.ireturn, 1) := by decide +kernel
theorem dX7_fine_0 : decode cX7_fine 0 = .ok (.aload_n 0, 1) := by decide +kernel
theorem dX7_fine_1 : decode cX7_fine 1 = .ok (.iconst 0, 1) := by decide +kernel
theorem dX7_fine_2 : decode cX7_fine 2 = .ok (.putfield 106, 3) := by decide +kernel
theorem dX7_fine_5 : decode cX7_fine 5 = .ok (.iload_n 1, 1) := by decide +kernel
theorem dX7_fine_6 : decode cX7_fine 6 = .ok (.ireturn, 1) := by decide +kernel
theorem dX7_feed_0 : decode cX7_feed 0 = .ok (.iload_n 1, 1) := by decide +kernel
theorem dX7_feed_1 : decode cX7_feed 1 = .ok (.ifCond .lt 10, 3) := by decide +kernel
theorem dX7_feed_4 : decode cX7_feed 4 = .ok (.iload_n 1, 1) := by decide +kernel
theorem dX7_feed_5 : decode cX7_feed 5 = .ok (.sipush 255, 3) := by decide +kernel
theorem dX7_feed_8 : decode cX7_feed 8 = .ok (.if_icmp .le 6, 3) := by decide +kernel
theorem dX7_feed_11 : decode cX7_feed 11 = .ok (.ldc 73, 2) := by decide +kernel
theorem dX7_feed_13 : decode cX7_feed 13 = .ok (.ireturn, 1) := by decide +kernel
theorem dX7_feed_14 : decode cX7_feed 14 = .ok (.aload_n 0, 1) := by decide +kernel
theorem dX7_feed_15 : decode cX7_feed 15 = .ok (.getfield 19, 3) := by decide +kernel
theorem dX7_feed_18 : decode cX7_feed 18 = .ok (.invokevirtual 111, 3) := by decide +kernel
theorem dX7_feed_21 : decode cX7_feed 21 = .ok (.ifCond .eq 6, 3) := by decide +kernel
theorem dX7_feed_24 : decode cX7_feed 24 = .ok (.ldc 115, 2) := by decide +kernel
theorem dX7_feed_26 : decode cX7_feed 26 = .ok (.ireturn, 1) := by decide +kernel
theorem dX7_feed_27 : decode cX7_feed 27 = .ok (.aload_n 0, 1) := by decide +kernel
theorem dX7_feed_28 : decode cX7_feed 28 = .ok (.getfield 19, 3) := by decide +kernel
theorem dX7_feed_31 : decode cX7_feed 31 = .ok (.iload_n 1, 1) := by decide +kernel
theorem dX7_feed_32 : decode cX7_feed 32 = .ok (.invokevirtual 116, 3) := by decide +kernel
theorem dX7_feed_35 : decode cX7_feed 35 = .ok (.ireturn, 1) := by decide +kernel
theorem dX7_hall_0 : decode cX7_hall 0 = .ok (.aload_n 0, 1) := by decide +kernel
theorem dX7_hall_1 : decode cX7_hall 1 = .ok (.getfield 19, 3) := by decide +kernel
theorem dX7_hall_4 : decode cX7_hall 4 = .ok (.aload_n 0, 1) := by decide +kernel
theorem dX7_hall_5 : decode cX7_hall 5 = .ok (.getfield 30, 3) := by decide +kernel
theorem dX7_hall_8 : decode cX7_hall 8 = .ok (.invokevirtual 119, 3) := by decide +kernel
theorem dX7_hall_11 : decode cX7_hall 11 = .ok (.istore_n 1, 1) := by decide +kernel
theorem dX7_hall_12 : decode cX7_hall 12 = .ok (.aload_n 0, 1) := by decide +kernel
theorem dX7_hall_13 : decode cX7_hall 13 = .ok (.getfield 19, 3) := by decide +kernel
theorem dX7_hall_16 : decode cX7_hall 16 = .ok (.invokevirtual 123, 3) := by decide +kernel
theorem dX7_hall_19 : decode cX7_hall 19 = .ok (.iload_n 1, 1) := by decide +kernel
theorem dX7_hall_20 : decode cX7_hall 20 = .ok (.ifCond .eq 19, 3) := by decide +kernel
theorem dX7_hall_23 : decode cX7_hall 23 = .ok (.aload_n 0, 1) := by decide +kernel
theorem dX7_hall_24 : decode cX7_hall 24 = .ok (.iload_n 1, 1) := by decide +kernel
theorem dX7_hall_25 : decode cX7_hall 25 = .ok (.putfield 126, 3) := by decide +kernel
theorem dX7_hall_28 : decode cX7_hall 28 = .ok (.ldc 129, 2) := by decide +kernel
theorem dX7_hall_30 : decode cX7_hall 30 = .ok (.aload_n 0, 1) := by decide +kernel
theorem dX7_hall_31 : decode cX7_hall 31 = .ok (.getfield 19, 3) := by decide +kernel
theorem dX7_hall_34 : decode cX7_hall 34 = .ok (.invokevirtual 130, 3) := by decide +kernel
theorem dX7_hall_37 : decode cX7_hall 37 = .ok (.isub, 1) := by decide +kernel
theorem dX7_hall_38 : decode cX7_hall 38 = .ok (.ireturn, 1) := by decide +kernel
theorem dX7_hall_39 : decode cX7_hall 39 = .ok (.aload_n 0, 1) := by decide +kernel
theorem dX7_hall_40 : decode cX7_hall 40 = .ok (.getfield 26, 3) := by decide +kernel
theorem dX7_hall_43 : decode cX7_hall 43 = .ok (.aload_n 0, 1) := by decide +kernel
theorem dX7_hall_44 : decode cX7_hall 44 = .ok (.getfield 30, 3) := by decide +kernel
theorem dX7_hall_47 : decode cX7_hall 47 = .ok (.invokevirtual 134, 3) := by decide +kernel
theorem dX7_hall_50 : decode cX7_hall 50 = .ok (.aload_n 0, 1) := by decide +kernel
theorem dX7_hall_51 : decode cX7_hall 51 = .ok (.getfield 36, 3) := by decide +kernel
theorem dX7_hall_54 : decode cX7_hall 54 = .ok (.invokevirtual 137, 3) := by decide +kernel
theorem dX7_hall_57 : decode cX7_hall 57 = .ok (.aload_n 0, 1) := by decide +kernel
theorem dX7_hall_58 : decode cX7_hall 58 = .ok (.getfield 26, 3) := by decide +kernel
theorem dX7_hall_61 : decode cX7_hall 61 = .ok (.getfield 138, 3) := by decide +kernel
theorem dX7_hall_64 : decode cX7_hall 64 = .ok (.ireturn, 1) := by decide +kernel
theorem dX7_fault_0 : decode cX7_fault 0 = .ok (.aload_n 0, 1) := by decide +kernel
theorem dX7_fault_1 : decode cX7_fault 1 = .ok (.getfield 126, 3) := by decide +kernel
theorem dX7_fault_4 : decode cX7_fault 4 = .ok (.ireturn, 1) := by decide +kernel
theorem dX7_undo_0 : decode cX7_undo 0 = .ok (.aload_n 0, 1) := by decide +kernel
theorem dX7_undo_1 : decode cX7_undo 1 = .ok (.getfield 36, 3) := by decide +kernel
theorem dX7_undo_4 : decode cX7_undo 4 = .ok (.aload_n 0, 1) := by decide +kernel
theorem dX7_undo_5 : decode cX7_undo 5 = .ok (.getfield 26, 3) := by decide +kernel
theorem dX7_undo_8 : decode cX7_undo 8 = .ok (.invokevirtual 141, 3) := by decide +kernel
theorem dX7_undo_11 : decode cX7_undo 11 = .ok (.ifCond .eq 13, 3) := by decide +kernel
theorem dX7_undo_14 : decode cX7_undo 14 = .ok (.aload_n 0, 1) := by decide +kernel
theorem dX7_undo_15 : decode cX7_undo 15 = .ok (.getfield 36, 3) := by decide +kernel
theorem dX7_undo_18 : decode cX7_undo 18 = .ok (.invokevirtual 145, 3) := by decide +kernel
theorem dX7_undo_21 : decode cX7_undo 21 = .ok (.goto 5, 3) := by decide +kernel
theorem dX7_undo_24 : decode cX7_undo 24 = .ok (.ldc 148, 2) := by decide +kernel
theorem dX7_undo_26 : decode cX7_undo 26 = .ok (.ireturn, 1) := by decide +kernel
theorem dX7_ticks_0 : decode cX7_ticks 0 = .ok (.aload_n 0, 1) := by decide +kernel
theorem dX7_ticks_1 : decode cX7_ticks 1 = .ok (.invokevirtual 149, 3) := by decide +kernel
theorem dX7_ticks_4 : decode cX7_ticks 4 = .ok (.ifCond .eq 6, 3) := by decide +kernel
theorem dX7_ticks_7 : decode cX7_ticks 7 = .ok (.ldc 148, 2) := by decide +kernel
theorem dX7_ticks_9 : decode cX7_ticks 9 = .ok (.ireturn, 1) := by decide +kernel
theorem dX7_ticks_10 : decode cX7_ticks 10 = .ok (.iload_n 1, 1) := by decide +kernel
theorem dX7_ticks_11 : decode cX7_ticks 11 = .ok (.iconst 1, 1) := by decide +kernel
theorem dX7_ticks_12 : decode cX7_ticks 12 = .ok (.if_icmp .lt 9, 3) := by decide +kernel
theorem dX7_ticks_15 : decode cX7_ticks 15 = .ok (.iload_n 1, 1) := by decide +kernel
theorem dX7_ticks_16 : decode cX7_ticks 16 = .ok (.bipush 24, 2) := by decide +kernel
theorem dX7_ticks_18 : decode cX7_ticks 18 = .ok (.if_icmp .le 6, 3) := by decide +kernel
theorem dX7_ticks_21 : decode cX7_ticks 21 = .ok (.ldc 73, 2) := by decide +kernel
theorem dX7_ticks_23 : decode cX7_ticks 23 = .ok (.ireturn, 1) := by decide +kernel
theorem dX7_ticks_24 : decode cX7_ticks 24 = .ok (.aload_n 0, 1) := by decide +kernel
theorem dX7_ticks_25 : decode cX7_ticks 25 = .ok (.getfield 26, 3) := by decide +kernel
theorem dX7_ticks_28 : decode cX7_ticks 28 = .ok (.getfield 152, 3) := by decide +kernel
theorem dX7_ticks_31 : decode cX7_ticks 31 = .ok (.iload_n 1, 1) := by decide +kernel
theorem dX7_ticks_32 : decode cX7_ticks 32 = .ok (.iadd, 1) := by decide +kernel
theorem dX7_ticks_33 : decode cX7_ticks 33 = .ok (.sipush 999, 3) := by decide +kernel
theorem dX7_ticks_36 : decode cX7_ticks 36 = .ok (.if_icmp .le 6, 3) := by decide +kernel
theorem dX7_ticks_39 : decode cX7_ticks 39 = .ok (.ldc 115, 2) := by decide +kernel
theorem dX7_ticks_41 : decode cX7_ticks 41 = .ok (.ireturn, 1) := by decide +kernel
theorem dX7_ticks_42 : decode cX7_ticks 42 = .ok (.iconst 0, 1) := by decide +kernel
theorem dX7_ticks_43 : decode cX7_ticks 43 = .ok (.istore_n 2, 1) := by decide +kernel
theorem dX7_ticks_44 : decode cX7_ticks 44 = .ok (.iload_n 2, 1) := by decide +kernel
theorem dX7_ticks_45 : decode cX7_ticks 45 = .ok (.iload_n 1, 1) := by decide +kernel
theorem dX7_ticks_46 : decode cX7_ticks 46 = .ok (.if_icmp .ge 27, 3) := by decide +kernel
theorem dX7_ticks_49 : decode cX7_ticks 49 = .ok (.aload_n 0, 1) := by decide +kernel
theorem dX7_ticks_50 : decode cX7_ticks 50 = .ok (.getfield 36, 3) := by decide +kernel
theorem dX7_ticks_53 : decode cX7_ticks 53 = .ok (.aload_n 0, 1) := by decide +kernel
theorem dX7_ticks_54 : decode cX7_ticks 54 = .ok (.getfield 26, 3) := by decide +kernel
theorem dX7_ticks_57 : decode cX7_ticks 57 = .ok (.invokevirtual 155, 3) := by decide +kernel
theorem dX7_ticks_60 : decode cX7_ticks 60 = .ok (.aload_n 0, 1) := by decide +kernel
theorem dX7_ticks_61 : decode cX7_ticks 61 = .ok (.getfield 26, 3) := by decide +kernel
theorem dX7_ticks_64 : decode cX7_ticks 64 = .ok (.invokevirtual 158, 3) := by decide +kernel
theorem dX7_ticks_67 : decode cX7_ticks 67 = .ok (.iinc 2 1, 3) := by decide +kernel
theorem dX7_ticks_70 : decode cX7_ticks 70 = .ok (.goto (-26), 3) := by decide +kernel
theorem dX7_ticks_73 : decode cX7_ticks 73 = .ok (.aload_n 0, 1) := by decide +kernel
theorem dX7_ticks_74 : decode cX7_ticks 74 = .ok (.getfield 26, 3) := by decide +kernel
theorem dX7_ticks_77 : decode cX7_ticks 77 = .ok (.bipush 7, 2) := by decide +kernel
theorem dX7_ticks_79 : decode cX7_ticks 79 = .ok (.invokevirtual 161, 3) := by decide +kernel
theorem dX7_ticks_82 : decode cX7_ticks 82 = .ok (.ireturn, 1) := by decide +kernel
theorem dX7_move_0 : decode cX7_move 0 = .ok (.aload_n 0, 1) := by decide +kernel
theorem dX7_move_1 : decode cX7_move 1 = .ok (.getfield 26, 3) := by decide +kernel
theorem dX7_move_4 : decode cX7_move 4 = .ok (.iload_n 1, 1) := by decide +kernel
theorem dX7_move_5 : decode cX7_move 5 = .ok (.invokevirtual 164, 3) := by decide +kernel
theorem dX7_move_8 : decode cX7_move 8 = .ok (.ifCond .eq 14, 3) := by decide +kernel
theorem dX7_move_11 : decode cX7_move 11 = .ok (.aload_n 0, 1) := by decide +kernel
theorem dX7_move_12 : decode cX7_move 12 = .ok (.getfield 26, 3) := by decide +kernel
theorem dX7_move_15 : decode cX7_move 15 = .ok (.iload_n 2, 1) := by decide +kernel
theorem dX7_move_16 : decode cX7_move 16 = .ok (.invokevirtual 167, 3) := by decide +kernel
theorem dX7_move_19 : decode cX7_move 19 = .ok (.ifCond .ne 6, 3) := by decide +kernel
theorem dX7_move_22 : decode cX7_move 22 = .ok (.ldc 73, 2) := by decide +kernel
theorem dX7_move_24 : decode cX7_move 24 = .ok (.ireturn, 1) := by decide +kernel
theorem dX7_move_25 : decode cX7_move 25 = .ok (.aload_n 0, 1) := by decide +kernel
theorem dX7_move_26 : decode cX7_move 26 = .ok (.getfield 26, 3) := by decide +kernel
theorem dX7_move_29 : decode cX7_move 29 = .ok (.getfield 170, 3) := by decide +kernel
theorem dX7_move_32 : decode cX7_move 32 = .ok (.iload_n 1, 1) := by decide +kernel
theorem dX7_move_33 : decode cX7_move 33 = .ok (.iaload, 1) := by decide +kernel
theorem dX7_move_34 : decode cX7_move 34 = .ok (.istore_n 3, 1) := by decide +kernel
theorem dX7_move_35 : decode cX7_move 35 = .ok (.aload_n 0, 1) := by decide +kernel
theorem dX7_move_36 : decode cX7_move 36 = .ok (.getfield 26, 3) := by decide +kernel
theorem dX7_move_39 : decode cX7_move 39 = .ok (.iload_n 1, 1) := by decide +kernel
theorem dX7_move_40 : decode cX7_move 40 = .ok (.invokevirtual 173, 3) := by decide +kernel
theorem dX7_move_43 : decode cX7_move 43 = .ok (.ifCond .eq 8, 3) := by decide +kernel
theorem dX7_move_46 : decode cX7_move 46 = .ok (.iload_n 3, 1) := by decide +kernel
theorem dX7_move_47 : decode cX7_move 47 = .ok (.iload_n 2, 1) := by decide +kernel
theorem dX7_move_48 : decode cX7_move 48 = .ok (.if_icmp .ne 6, 3) := by decide +kernel
theorem dX7_move_51 : decode cX7_move 51 = .ok (.ldc 148, 2) := by decide +kernel
theorem dX7_move_53 : decode cX7_move 53 = .ok (.ireturn, 1) := by decide +kernel
theorem dX7_move_54 : decode cX7_move 54 = .ok (.aload_n 0, 1) := by decide +kernel
theorem dX7_move_55 : decode cX7_move 55 = .ok (.getfield 36, 3) := by decide +kernel
theorem dX7_move_58 : decode cX7_move 58 = .ok (.aload_n 0, 1) := by decide +kernel
theorem dX7_move_59 : decode cX7_move 59 = .ok (.getfield 26, 3) := by decide +kernel
theorem dX7_move_62 : decode cX7_move 62 = .ok (.invokevirtual 155, 3) := by decide +kernel
theorem dX7_move_65 : decode cX7_move 65 = .ok (.aload_n 0, 1) := by decide +kernel
theorem dX7_move_66 : decode cX7_move 66 = .ok (.getfield 26, 3) := by decide +kernel
theorem dX7_move_69 : decode cX7_move 69 = .ok (.getfield 170, 3) := by decide +kernel
theorem dX7_move_72 : decode cX7_move 72 = .ok (.iload_n 1, 1) := by decide +kernel
theorem dX7_move_73 : decode cX7_move 73 = .ok (.iload_n 2, 1) := by decide +kernel
theorem dX7_move_74 : decode cX7_move 74 = .ok (.iastore, 1) := by decide +kernel
theorem dX7_move_75 : decode cX7_move 75 = .ok (.iload_n 3, 1) := by decide +kernel
theorem dX7_move_76 : decode cX7_move 76 = .ok (.ireturn, 1) := by decide +kernel
theorem dX7_paint_0 : decode cX7_paint 0 = .ok (.aload_n 0, 1) := by decide +kernel
theorem dX7_paint_1 : decode cX7_paint 1 = .ok (.getfield 26, 3) := by decide +kernel
theorem dX7_paint_4 : decode cX7_paint 4 = .ok (.iload_n 1, 1) := by decide +kernel
theorem dX7_paint_5 : decode cX7_paint 5 = .ok (.invokevirtual 164, 3) := by decide +kernel
theorem dX7_paint_8 : decode cX7_paint 8 = .ok (.ifCond .eq 12, 3) := by decide +kernel
theorem dX7_paint_11 : decode cX7_paint 11 = .ok (.iload_n 2, 1) := by decide +kernel
theorem dX7_paint_12 : decode cX7_paint 12 = .ok (.ifCond .lt 8, 3) := by decide +kernel
theorem dX7_paint_15 : decode cX7_paint 15 = .ok (.iload_n 2, 1) := by decide +kernel
theorem dX7_paint_16 : decode cX7_paint 16 = .ok (.iconst 4, 1) := by decide +kernel
theorem dX7_paint_17 : decode cX7_paint 17 = .ok (.if_icmp .lt 6, 3) := by decide +kernel
theorem dX7_paint_20 : decode cX7_paint 20 = .ok (.ldc 73, 2) := by decide +kernel
theorem dX7_paint_22 : decode cX7_paint 22 = .ok (.ireturn, 1) := by decide +kernel
theorem dX7_paint_23 : decode cX7_paint 23 = .ok (.aload_n 0, 1) := by decide +kernel
theorem dX7_paint_24 : decode cX7_paint 24 = .ok (.getfield 26, 3) := by decide +kernel
theorem dX7_paint_27 : decode cX7_paint 27 = .ok (.getfield 176, 3) := by decide +kernel
theorem dX7_paint_30 : decode cX7_paint 30 = .ok (.iload_n 1, 1) := by decide +kernel
theorem dX7_paint_31 : decode cX7_paint 31 = .ok (.iaload, 1) := by decide +kernel
theorem dX7_paint_32 : decode cX7_paint 32 = .ok (.istore_n 3, 1) := by decide +kernel
theorem dX7_paint_33 : decode cX7_paint 33 = .ok (.aload_n 0, 1) := by decide +kernel
theorem dX7_paint_34 : decode cX7_paint 34 = .ok (.getfield 36, 3) := by decide +kernel
theorem dX7_paint_37 : decode cX7_paint 37 = .ok (.aload_n 0, 1) := by decide +kernel
theorem dX7_paint_38 : decode cX7_paint 38 = .ok (.getfield 26, 3) := by decide +kernel
theorem dX7_paint_41 : decode cX7_paint 41 = .ok (.invokevirtual 155, 3) := by decide +kernel
theorem dX7_paint_44 : decode cX7_paint 44 = .ok (.aload_n 0, 1) := by decide +kernel
theorem dX7_paint_45 : decode cX7_paint 45 = .ok (.getfield 26, 3) := by decide +kernel
theorem dX7_paint_48 : decode cX7_paint 48 = .ok (.getfield 176, 3) := by decide +kernel
theorem dX7_paint_51 : decode cX7_paint 51 = .ok (.iload_n 1, 1) := by decide +kernel
theorem dX7_paint_52 : decode cX7_paint 52 = .ok (.iload_n 2, 1) := by decide +kernel
theorem dX7_paint_53 : decode cX7_paint 53 = .ok (.iastore, 1) := by decide +kernel
theorem dX7_paint_54 : decode cX7_paint 54 = .ok (.iload_n 3, 1) := by decide +kernel
theorem dX7_paint_55 : decode cX7_paint 55 = .ok (.ireturn, 1) := by decide +kernel
theorem dX7_back_0 : decode cX7_back 0 = .ok (.aload_n 0, 1) := by decide +kernel
theorem dX7_back_1 : decode cX7_back 1 = .ok (.getfield 26, 3) := by decide +kernel
theorem dX7_back_4 : decode cX7_back 4 = .ok (.iload_n 1, 1) := by decide +kernel
theorem dX7_back_5 : decode cX7_back 5 = .ok (.invokevirtual 164, 3) := by decide +kernel
theorem dX7_back_8 : decode cX7_back 8 = .ok (.ifCond .ne 6, 3) := by decide +kernel
theorem dX7_back_11 : decode cX7_back 11 = .ok (.ldc 73, 2) := by decide +kernel
theorem dX7_back_13 : decode cX7_back 13 = .ok (.ireturn, 1) := by decide +kernel
theorem dX7_back_14 : decode cX7_back 14 = .ok (.aload_n 0, 1) := by decide +kernel
theorem dX7_back_15 : decode cX7_back 15 = .ok (.getfield 26, 3) := by decide +kernel
theorem dX7_back_18 : decode cX7_back 18 = .ok (.iload_n 1, 1) := by decide +kernel
theorem dX7_back_19 : decode cX7_back 19 = .ok (.invokevirtual 173, 3) := by decide +kernel
theorem dX7_back_22 : decode cX7_back 22 = .ok (.ifCond .eq 6, 3) := by decide +kernel
theorem dX7_back_25 : decode cX7_back 25 = .ok (.ldc 148, 2) := by decide +kernel
theorem dX7_back_27 : decode cX7_back 27 = .ok (.ireturn, 1) := by decide +kernel
theorem dX7_back_28 : decode cX7_back 28 = .ok (.aload_n 0, 1) := by decide +kernel
theorem dX7_back_29 : decode cX7_back 29 = .ok (.getfield 26, 3) := by decide +kernel
theorem dX7_back_32 : decode cX7_back 32 = .ok (.getfield 179, 3) := by decide +kernel
theorem dX7_back_35 : decode cX7_back 35 = .ok (.iload_n 1, 1) := by decide +kernel
theorem dX7_back_36 : decode cX7_back 36 = .ok (.iaload, 1) := by decide +kernel
theorem dX7_back_37 : decode cX7_back 37 = .ok (.istore_n 2, 1) := by decide +kernel
theorem dX7_back_38 : decode cX7_back 38 = .ok (.aload_n 0, 1) := by decide +kernel
theorem dX7_back_39 : decode cX7_back 39 = .ok (.getfield 36, 3) := by decide +kernel
theorem dX7_back_42 : decode cX7_back 42 = .ok (.aload_n 0, 1) := by decide +kernel
theorem dX7_back_43 : decode cX7_back 43 = .ok (.getfield 26, 3) := by decide +kernel
theorem dX7_back_46 : decode cX7_back 46 = .ok (.invokevirtual 155, 3) := by decide +kernel
theorem dX7_back_49 : decode cX7_back 49 = .ok (.aload_n 0, 1) := by decide +kernel
theorem dX7_back_50 : decode cX7_back 50 = .ok (.getfield 26, 3) := by decide +kernel
theorem dX7_back_53 : decode cX7_back 53 = .ok (.iload_n 1, 1) := by decide +kernel
theorem dX7_back_54 : decode cX7_back 54 = .ok (.invokevirtual 182, 3) := by decide +kernel
theorem dX7_back_57 : decode cX7_back 57 = .ok (.iload_n 2, 1) := by decide +kernel
theorem dX7_back_58 : decode cX7_back 58 = .ok (.ireturn, 1) := by decide +kernel
theorem dX7_turn_0 : decode cX7_turn 0 = .ok (.aload_n 0, 1) := by decide +kernel
theorem dX7_turn_1 : decode cX7_turn 1 = .ok (.invokevirtual 149, 3) := by decide +kernel
theorem dX7_turn_4 : decode cX7_turn 4 = .ok (.ifCond .eq 6, 3) := by decide +kernel
theorem dX7_turn_7 : decode cX7_turn 7 = .ok (.ldc 148, 2) := by decide +kernel
theorem dX7_turn_9 : decode cX7_turn 9 = .ok (.ireturn, 1) := by decide +kernel
theorem dX7_turn_10 : decode cX7_turn 10 = .ok (.aload_n 0, 1) := by decide +kernel
theorem dX7_turn_11 : decode cX7_turn 11 = .ok (.getfield 36, 3) := by decide +kernel
theorem dX7_turn_14 : decode cX7_turn 14 = .ok (.aload_n 0, 1) := by decide +kernel
theorem dX7_turn_15 : decode cX7_turn 15 = .ok (.getfield 26, 3) := by decide +kernel
theorem dX7_turn_18 : decode cX7_turn 18 = .ok (.invokevirtual 155, 3) := by decide +kernel
theorem dX7_turn_21 : decode cX7_turn 21 = .ok (.aload_n 0, 1) := by decide +kernel
theorem dX7_turn_22 : decode cX7_turn 22 = .ok (.getfield 26, 3) := by decide +kernel
theorem dX7_turn_25 : decode cX7_turn 25 = .ok (.iconst 1, 1) := by decide +kernel
theorem dX7_turn_26 : decode cX7_turn 26 = .ok (.invokevirtual 186, 3) := by decide +kernel
theorem dX7_turn_29 : decode cX7_turn 29 = .ok (.aload_n 0, 1) := by decide +kernel
theorem dX7_turn_30 : decode cX7_turn 30 = .ok (.getfield 26, 3) := by decide +kernel
theorem dX7_turn_33 : decode cX7_turn 33 = .ok (.iconst 2, 1) := by decide +kernel
theorem dX7_turn_34 : decode cX7_turn 34 = .ok (.invokevirtual 161, 3) := by decide +kernel
theorem dX7_turn_37 : decode cX7_turn 37 = .ok (.invokestatic 189, 3) := by decide +kernel
theorem dX7_turn_40 : decode cX7_turn 40 = .ok (.ireturn, 1) := by decide +kernel
theorem dX7_traveller_0 : decode cX7_traveller 0 = .ok (.aload_n 0, 1) := by decide +kernel
theorem dX7_traveller_1 : decode cX7_traveller 1 = .ok (.getfield 26, 3) := by decide +kernel
theorem dX7_traveller_4 : decode cX7_traveller 4 = .ok (.iload_n 1, 1) := by decide +kernel
theorem dX7_traveller_5 : decode cX7_traveller 5 = .ok (.invokevirtual 164, 3) := by decide +kernel
theorem dX7_traveller_8 : decode cX7_traveller 8 = .ok (.ifCond .ne 6, 3) := by decide +kernel
theorem dX7_traveller_11 : decode cX7_traveller 11 = .ok (.ldc 73, 2) := by decide +kernel
theorem dX7_traveller_13 : decode cX7_traveller 13 = .ok (.ireturn, 1) := by decide +kernel
theorem dX7_traveller_14 : decode cX7_traveller 14 = .ok (.iload_n 2, 1) := by decide +kernel
theorem dX7_traveller_15 : decode cX7_traveller 15 = .ok (.tableswitch 118 0 5 #[37, 47, 64, 74, 84, 101], 37) := by decide +kernel
theorem dX7_traveller_52 : decode cX7_traveller 52 = .ok (.aload_n 0, 1) := by decide +kernel
theorem dX7_traveller_53 : decode cX7_traveller 53 = .ok (.getfield 26, 3) := by decide +kernel
theorem dX7_traveller_56 : decode cX7_traveller 56 = .ok (.getfield 170, 3) := by decide +kernel
theorem dX7_traveller_59 : decode cX7_traveller 59 = .ok (.iload_n 1, 1) := by decide +kernel
theorem dX7_traveller_60 : decode cX7_traveller 60 = .ok (.iaload, 1) := by decide +kernel
theorem dX7_traveller_61 : decode cX7_traveller 61 = .ok (.ireturn, 1) := by decide +kernel
theorem dX7_traveller_62 : decode cX7_traveller 62 = .ok (.aload_n 0, 1) := by decide +kernel
theorem dX7_traveller_63 : decode cX7_traveller 63 = .ok (.getfield 26, 3) := by decide +kernel
theorem dX7_traveller_66 : decode cX7_traveller 66 = .ok (.iload_n 1, 1) := by decide +kernel
theorem dX7_traveller_67 : decode cX7_traveller 67 = .ok (.invokevirtual 173, 3) := by decide +kernel
theorem dX7_traveller_70 : decode cX7_traveller 70 = .ok (.ifCond .eq 7, 3) := by decide +kernel
theorem dX7_traveller_73 : decode cX7_traveller 73 = .ok (.iconst 1, 1) := by decide +kernel
theorem dX7_traveller_74 : decode cX7_traveller 74 = .ok (.goto 4, 3) := by decide +kernel
theorem dX7_traveller_77 : decode cX7_traveller 77 = .ok (.iconst 0, 1) := by decide +kernel
theorem dX7_traveller_78 : decode cX7_traveller 78 = .ok (.ireturn, 1) := by decide +kernel
theorem dX7_traveller_79 : decode cX7_traveller 79 = .ok (.aload_n 0, 1) := by decide +kernel
theorem dX7_traveller_80 : decode cX7_traveller 80 = .ok (.getfield 26, 3) := by decide +kernel
theorem dX7_traveller_83 : decode cX7_traveller 83 = .ok (.getfield 179, 3) := by decide +kernel
theorem dX7_traveller_86 : decode cX7_traveller 86 = .ok (.iload_n 1, 1) := by decide +kernel
theorem dX7_traveller_87 : decode cX7_traveller 87 = .ok (.iaload, 1) := by decide +kernel
theorem dX7_traveller_88 : decode cX7_traveller 88 = .ok (.ireturn, 1) := by decide +kernel
theorem dX7_traveller_89 : decode cX7_traveller 89 = .ok (.aload_n 0, 1) := by decide +kernel
theorem dX7_traveller_90 : decode cX7_traveller 90 = .ok (.getfield 26, 3) := by decide +kernel
theorem dX7_traveller_93 : decode cX7_traveller 93 = .ok (.getfield 194, 3) := by decide +kernel
theorem dX7_traveller_96 : decode cX7_traveller 96 = .ok (.iload_n 1, 1) := by decide +kernel
theorem dX7_traveller_97 : decode cX7_traveller 97 = .ok (.iaload, 1) := by decide +kernel
theorem dX7_traveller_98 : decode cX7_traveller 98 = .ok (.ireturn, 1) := by decide +kernel
theorem dX7_traveller_99 : decode cX7_traveller 99 = .ok (.aload_n 0, 1) := by decide +kernel
theorem dX7_traveller_100 : decode cX7_traveller 100 = .ok (.getfield 26, 3) := by decide +kernel
theorem dX7_traveller_103 : decode cX7_traveller 103 = .ok (.iload_n 1, 1) := by decide +kernel
theorem dX7_traveller_104 : decode cX7_traveller 104 = .ok (.invokevirtual 197, 3) := by decide +kernel
theorem dX7_traveller_107 : decode cX7_traveller 107 = .ok (.ifCond .eq 7, 3) := by decide +kernel
theorem dX7_traveller_110 : decode cX7_traveller 110 = .ok (.iconst 1, 1) := by decide +kernel
theorem dX7_traveller_111 : decode cX7_traveller 111 = .ok (.goto 4, 3) := by decide +kernel
theorem dX7_traveller_114 : decode cX7_traveller 114 = .ok (.iconst 0, 1) := by decide +kernel
theorem dX7_traveller_115 : decode cX7_traveller 115 = .ok (.ireturn, 1) := by decide +kernel
theorem dX7_traveller_116 : decode cX7_traveller 116 = .ok (.aload_n 0, 1) := by decide +kernel
theorem dX7_traveller_117 : decode cX7_traveller 117 = .ok (.getfield 26, 3) := by decide +kernel
theorem dX7_traveller_120 : decode cX7_traveller 120 = .ok (.iload_n 1, 1) := by decide +kernel
theorem dX7_traveller_121 : decode cX7_traveller 121 = .ok (.invokevirtual 200, 3) := by decide +kernel
theorem dX7_traveller_124 : decode cX7_traveller 124 = .ok (.ifCond .eq 7, 3) := by decide +kernel
theorem dX7_traveller_127 : decode cX7_traveller 127 = .ok (.iconst 1, 1) := by decide +kernel
theorem dX7_traveller_128 : decode cX7_traveller 128 = .ok (.goto 4, 3) := by decide +kernel
theorem dX7_traveller_131 : decode cX7_traveller 131 = .ok (.iconst 0, 1) := by decide +kernel
theorem dX7_traveller_132 : decode cX7_traveller 132 = .ok (.ireturn, 1) := by decide +kernel
theorem dX7_traveller_133 : decode cX7_traveller 133 = .ok (.ldc 73, 2) := by decide +kernel
theorem dX7_traveller_135 : decode cX7_traveller 135 = .ok (.ireturn, 1) := by decide +kernel
theorem dX7_bag_0 : decode cX7_bag 0 = .ok (.aload_n 0, 1) := by decide +kernel
theorem dX7_bag_1 : decode cX7_bag 1 = .ok (.getfield 26, 3) := by decide +kernel
theorem dX7_bag_4 : decode cX7_bag 4 = .ok (.iload_n 1, 1) := by decide +kernel
theorem dX7_bag_5 : decode cX7_bag 5 = .ok (.invokevirtual 164, 3) := by decide +kernel
theorem dX7_bag_8 : decode cX7_bag 8 = .ok (.ifCond .ne 6, 3) := by decide +kernel
theorem dX7_bag_11 : decode cX7_bag 11 = .ok (.ldc 73, 2) := by decide +kernel
theorem dX7_bag_13 : decode cX7_bag 13 = .ok (.ireturn, 1) := by decide +kernel
theorem dX7_bag_14 : decode cX7_bag 14 = .ok (.iload_n 2, 1) := by decide +kernel
theorem dX7_bag_15 : decode cX7_bag 15 = .ok (.lookupswitch 44 #[(0, 25), (1, 35)], 25) := by decide +kernel
theorem dX7_bag_40 : decode cX7_bag 40 = .ok (.aload_n 0, 1) := by decide +kernel
theorem dX7_bag_41 : decode cX7_bag 41 = .ok (.getfield 26, 3) := by decide +kernel
theorem dX7_bag_44 : decode cX7_bag 44 = .ok (.getfield 176, 3) := by decide +kernel
theorem dX7_bag_47 : decode cX7_bag 47 = .ok (.iload_n 1, 1) := by decide +kernel
theorem dX7_bag_48 : decode cX7_bag 48 = .ok (.iaload, 1) := by decide +kernel
theorem dX7_bag_49 : decode cX7_bag 49 = .ok (.ireturn, 1) := by decide +kernel
theorem dX7_bag_50 : decode cX7_bag 50 = .ok (.aload_n 0, 1) := by decide +kernel
theorem dX7_bag_51 : decode cX7_bag 51 = .ok (.getfield 26, 3) := by decide +kernel
theorem dX7_bag_54 : decode cX7_bag 54 = .ok (.iload_n 1, 1) := by decide +kernel
theorem dX7_bag_55 : decode cX7_bag 55 = .ok (.invokevirtual 203, 3) := by decide +kernel
theorem dX7_bag_58 : decode cX7_bag 58 = .ok (.ireturn, 1) := by decide +kernel
theorem dX7_bag_59 : decode cX7_bag 59 = .ok (.ldc 73, 2) := by decide +kernel
theorem dX7_bag_61 : decode cX7_bag 61 = .ok (.ireturn, 1) := by decide +kernel
theorem dX7_stand_0 : decode cX7_stand 0 = .ok (.aload_n 0, 1) := by decide +kernel
theorem dX7_stand_1 : decode cX7_stand 1 = .ok (.invokevirtual 149, 3) := by decide +kernel
theorem dX7_stand_4 : decode cX7_stand 4 = .ok (.ifCond .eq 6, 3) := by decide +kernel
theorem dX7_stand_7 : decode cX7_stand 7 = .ok (.ldc 148, 2) := by decide +kernel
theorem dX7_stand_9 : decode cX7_stand 9 = .ok (.ireturn, 1) := by decide +kernel
theorem dX7_stand_10 : decode cX7_stand 10 = .ok (.iload_n 1, 1) := by decide +kernel
theorem dX7_stand_11 : decode cX7_stand 11 = .ok (.ifCond .lt 9, 3) := by decide +kernel
theorem dX7_stand_14 : decode cX7_stand 14 = .ok (.iload_n 1, 1) := by decide +kernel
theorem dX7_stand_15 : decode cX7_stand 15 = .ok (.bipush 6, 2) := by decide +kernel
theorem dX7_stand_17 : decode cX7_stand 17 = .ok (.if_icmp .le 6, 3) := by decide +kernel
theorem dX7_stand_20 : decode cX7_stand 20 = .ok (.ldc 73, 2) := by decide +kernel
theorem dX7_stand_22 : decode cX7_stand 22 = .ok (.ireturn, 1) := by decide +kernel
theorem dX7_stand_23 : decode cX7_stand 23 = .ok (.iload_n 1, 1) := by decide +kernel
theorem dX7_stand_24 : decode cX7_stand 24 = .ok (.ifCond .ne 13, 3) := by decide +kernel
theorem dX7_stand_27 : decode cX7_stand 27 = .ok (.aload_n 0, 1) := by decide +kernel
theorem dX7_stand_28 : decode cX7_stand 28 = .ok (.getfield 26, 3) := by decide +kernel
theorem dX7_stand_31 : decode cX7_stand 31 = .ok (.getfield 206, 3) := by decide +kernel
theorem dX7_stand_34 : decode cX7_stand 34 = .ok (.goto 11, 3) := by decide +kernel
theorem dX7_stand_37 : decode cX7_stand 37 = .ok (.aload_n 0, 1) := by decide +kernel
theorem dX7_stand_38 : decode cX7_stand 38 = .ok (.getfield 26, 3) := by decide +kernel
theorem dX7_stand_41 : decode cX7_stand 41 = .ok (.iload_n 1, 1) := by decide +kernel
theorem dX7_stand_42 : decode cX7_stand 42 = .ok (.invokevirtual 161, 3) := by decide +kernel
theorem dX7_stand_45 : decode cX7_stand 45 = .ok (.ireturn, 1) := by decide +kernel
theorem dX7_place_0 : decode cX7_place 0 = .ok (.aload_n 0, 1) := by decide +kernel
theorem dX7_place_1 : decode cX7_place 1 = .ok (.getfield 26, 3) := by decide +kernel
theorem dX7_place_4 : decode cX7_place 4 = .ok (.iload_n 1, 1) := by decide +kernel
theorem dX7_place_5 : decode cX7_place 5 = .ok (.invokevirtual 167, 3) := by decide +kernel
theorem dX7_place_8 : decode cX7_place 8 = .ok (.ifCond .eq 14, 3) := by decide +kernel
theorem dX7_place_11 : decode cX7_place 11 = .ok (.aload_n 0, 1) := by decide +kernel
theorem dX7_place_12 : decode cX7_place 12 = .ok (.getfield 26, 3) := by decide +kernel
theorem dX7_place_15 : decode cX7_place 15 = .ok (.iload_n 1, 1) := by decide +kernel
theorem dX7_place_16 : decode cX7_place 16 = .ok (.invokevirtual 209, 3) := by decide +kernel
theorem dX7_place_19 : decode cX7_place 19 = .ok (.goto 5, 3) := by decide +kernel
theorem dX7_place_22 : decode cX7_place 22 = .ok (.ldc 73, 2) := by decide +kernel
theorem dX7_place_24 : decode cX7_place 24 = .ok (.ireturn, 1) := by decide +kernel
theorem dX7_noHall_0 : decode cX7_noHall 0 = .ok (.aload_n 0, 1) := by decide +kernel
theorem dX7_noHall_1 : decode cX7_noHall 1 = .ok (.getfield 26, 3) := by decide +kernel
theorem dX7_noHall_4 : decode cX7_noHall 4 = .ok (.getfield 138, 3) := by decide +kernel
theorem dX7_noHall_7 : decode cX7_noHall 7 = .ok (.ifCond .ne 7, 3) := by decide +kernel
theorem dX7_noHall_10 : decode cX7_noHall 10 = .ok (.iconst 1, 1) := by decide +kernel
theorem dX7_noHall_11 : decode cX7_noHall 11 = .ok (.goto 4, 3) := by decide +kernel
theorem dX7_noHall_14 : decode cX7_noHall 14 = .ok (.iconst 0, 1) := by decide +kernel
theorem dX7_noHall_15 : decode cX7_noHall 15 = .ok (.ireturn, 1) := by decide +kernel
theorem dX7_ahead_0 : decode cX7_ahead 0 = .ok (.aload_n 0, 1) := by decide +kernel
theorem dX7_ahead_1 : decode cX7_ahead 1 = .ok (.getfield 26, 3) := by decide +kernel
theorem dX7_ahead_4 : decode cX7_ahead 4 = .ok (.iload_n 1, 1) := by decide +kernel
theorem dX7_ahead_5 : decode cX7_ahead 5 = .ok (.invokevirtual 164, 3) := by decide +kernel
theorem dX7_ahead_8 : decode cX7_ahead 8 = .ok (.ifCond .eq 13, 3) := by decide +kernel
theorem dX7_ahead_11 : decode cX7_ahead 11 = .ok (.iload_n 2, 1) := by decide +kernel
theorem dX7_ahead_12 : decode cX7_ahead 12 = .ok (.ifCond .lt 9, 3) := by decide +kernel
theorem dX7_ahead_15 : decode cX7_ahead 15 = .ok (.iload_n 2, 1) := by decide +kernel
theorem dX7_ahead_16 : decode cX7_ahead 16 = .ok (.bipush 60, 2) := by decide +kernel
theorem dX7_ahead_18 : decode cX7_ahead 18 = .ok (.if_icmp .le 6, 3) := by decide +kernel
theorem dX7_ahead_21 : decode cX7_ahead 21 = .ok (.ldc 73, 2) := by decide +kernel
theorem dX7_ahead_23 : decode cX7_ahead 23 = .ok (.ireturn, 1) := by decide +kernel
theorem dX7_ahead_24 : decode cX7_ahead 24 = .ok (.aload_n 0, 1) := by decide +kernel
theorem dX7_ahead_25 : decode cX7_ahead 25 = .ok (.getfield 45, 3) := by decide +kernel
theorem dX7_ahead_28 : decode cX7_ahead 28 = .ok (.iload_n 2, 1) := by decide +kernel
theorem dX7_ahead_29 : decode cX7_ahead 29 = .ok (.invokevirtual 212, 3) := by decide +kernel
theorem dX7_ahead_32 : decode cX7_ahead 32 = .ok (.iload_n 1, 1) := by decide +kernel
theorem dX7_ahead_33 : decode cX7_ahead 33 = .ok (.invokevirtual 203, 3) := by decide +kernel
theorem dX7_ahead_36 : decode cX7_ahead 36 = .ok (.ireturn, 1) := by decide +kernel
theorem dX7_with_0 : decode cX7_with 0 = .ok (.aload_n 0, 1) := by decide +kernel
theorem dX7_with_1 : decode cX7_with 1 = .ok (.getfield 26, 3) := by decide +kernel
theorem dX7_with_4 : decode cX7_with 4 = .ok (.iload_n 1, 1) := by decide +kernel
theorem dX7_with_5 : decode cX7_with 5 = .ok (.invokevirtual 164, 3) := by decide +kernel
theorem dX7_with_8 : decode cX7_with 8 = .ok (.ifCond .eq 21, 3) := by decide +kernel
theorem dX7_with_11 : decode cX7_with 11 = .ok (.iload_n 2, 1) := by decide +kernel
theorem dX7_with_12 : decode cX7_with 12 = .ok (.ifCond .lt 17, 3) := by decide +kernel
theorem dX7_with_15 : decode cX7_with 15 = .ok (.iload_n 2, 1) := by decide +kernel
theorem dX7_with_16 : decode cX7_with 16 = .ok (.bipush 60, 2) := by decide +kernel
theorem dX7_with_18 : decode cX7_with 18 = .ok (.if_icmp .gt 11, 3) := by decide +kernel
theorem dX7_with_21 : decode cX7_with 21 = .ok (.iload_n 3, 1) := by decide +kernel
theorem dX7_with_22 : decode cX7_with 22 = .ok (.iconst 2, 1) := by decide +kernel
theorem dX7_with_23 : decode cX7_with 23 = .ok (.invokestatic 216, 3) := by decide +kernel
theorem dX7_with_26 : decode cX7_with 26 = .ok (.ifCond .ne 6, 3) := by decide +kernel
theorem dX7_with_29 : decode cX7_with 29 = .ok (.ldc 73, 2) := by decide +kernel
theorem dX7_with_31 : decode cX7_with 31 = .ok (.ireturn, 1) := by decide +kernel
theorem dX7_with_32 : decode cX7_with 32 = .ok (.aload_n 0, 1) := by decide +kernel
theorem dX7_with_33 : decode cX7_with 33 = .ok (.getfield 45, 3) := by decide +kernel
theorem dX7_with_36 : decode cX7_with 36 = .ok (.iload_n 2, 1) := by decide +kernel
theorem dX7_with_37 : decode cX7_with 37 = .ok (.invokevirtual 212, 3) := by decide +kernel
theorem dX7_with_40 : decode cX7_with 40 = .ok (.astore 4, 2) := by decide +kernel
theorem dX7_with_42 : decode cX7_with 42 = .ok (.iload_n 3, 1) := by decide +kernel
theorem dX7_with_43 : decode cX7_with 43 = .ok (.ifCond .ne 13, 3) := by decide +kernel
theorem dX7_with_46 : decode cX7_with 46 = .ok (.aload 4, 2) := by decide +kernel
theorem dX7_with_48 : decode cX7_with 48 = .ok (.getfield 179, 3) := by decide +kernel
theorem dX7_with_51 : decode cX7_with 51 = .ok (.iload_n 1, 1) := by decide +kernel
theorem dX7_with_52 : decode cX7_with 52 = .ok (.iaload, 1) := by decide +kernel
theorem dX7_with_53 : decode cX7_with 53 = .ok (.goto 10, 3) := by decide +kernel
theorem dX7_with_56 : decode cX7_with 56 = .ok (.aload 4, 2) := by decide +kernel
theorem dX7_with_58 : decode cX7_with 58 = .ok (.getfield 194, 3) := by decide +kernel
theorem dX7_with_61 : decode cX7_with 61 = .ok (.iload_n 1, 1) := by decide +kernel
theorem dX7_with_62 : decode cX7_with 62 = .ok (.iaload, 1) := by decide +kernel
theorem dX7_with_63 : decode cX7_with 63 = .ok (.ireturn, 1) := by decide +kernel
theorem dX7_all_0 : decode cX7_all 0 = .ok (.aload_n 0, 1) := by decide +kernel
theorem dX7_all_1 : decode cX7_all 1 = .ok (.invokevirtual 149, 3) := by decide +kernel
theorem dX7_all_4 : decode cX7_all 4 = .ok (.ifCond .eq 6, 3) := by decide +kernel
theorem dX7_all_7 : decode cX7_all 7 = .ok (.ldc 148, 2) := by decide +kernel
theorem dX7_all_9 : decode cX7_all 9 = .ok (.ireturn, 1) := by decide +kernel
theorem dX7_all_10 : decode cX7_all 10 = .ok (.iload_n 1, 1) := by decide +kernel
theorem dX7_all_11 : decode cX7_all 11 = .ok (.ifCond .lt 17, 3) := by decide +kernel
theorem dX7_all_14 : decode cX7_all 14 = .ok (.iload_n 1, 1) := by decide +kernel
theorem dX7_all_15 : decode cX7_all 15 = .ok (.bipush 60, 2) := by decide +kernel
theorem dX7_all_17 : decode cX7_all 17 = .ok (.if_icmp .gt 11, 3) := by decide +kernel
theorem dX7_all_20 : decode cX7_all 20 = .ok (.iload_n 2, 1) := by decide +kernel
theorem dX7_all_21 : decode cX7_all 21 = .ok (.iconst 3, 1) := by decide +kernel
theorem dX7_all_22 : decode cX7_all 22 = .ok (.invokestatic 216, 3) := by decide +kernel
theorem dX7_all_25 : decode cX7_all 25 = .ok (.ifCond .ne 6, 3) := by decide +kernel
theorem dX7_all_28 : decode cX7_all 28 = .ok (.ldc 73, 2) := by decide +kernel
theorem dX7_all_30 : decode cX7_all 30 = .ok (.ireturn, 1) := by decide +kernel
theorem dX7_all_31 : decode cX7_all 31 = .ok (.aload_n 0, 1) := by decide +kernel
theorem dX7_all_32 : decode cX7_all 32 = .ok (.getfield 45, 3) := by decide +kernel
theorem dX7_all_35 : decode cX7_all 35 = .ok (.iload_n 1, 1) := by decide +kernel
theorem dX7_all_36 : decode cX7_all 36 = .ok (.invokevirtual 212, 3) := by decide +kernel
theorem dX7_all_39 : decode cX7_all 39 = .ok (.astore_n 3, 1) := by decide +kernel
theorem dX7_all_40 : decode cX7_all 40 = .ok (.aload_n 3, 1) := by decide +kernel
theorem dX7_all_41 : decode cX7_all 41 = .ok (.iload_n 2, 1) := by decide +kernel
theorem dX7_all_42 : decode cX7_all 42 = .ok (.ifCond .ne 8, 3) := by decide +kernel
theorem dX7_all_45 : decode cX7_all 45 = .ok (.bipush 7, 2) := by decide +kernel
theorem dX7_all_47 : decode cX7_all 47 = .ok (.goto 14, 3) := by decide +kernel
theorem dX7_all_50 : decode cX7_all 50 = .ok (.iload_n 2, 1) := by decide +kernel
theorem dX7_all_51 : decode cX7_all 51 = .ok (.iconst 1, 1) := by decide +kernel
theorem dX7_all_52 : decode cX7_all 52 = .ok (.if_icmp .ne 7, 3) := by decide +kernel
theorem dX7_all_55 : decode cX7_all 55 = .ok (.iconst 5, 1) := by decide +kernel
theorem dX7_all_56 : decode cX7_all 56 = .ok (.goto 5, 3) := by decide +kernel
theorem dX7_all_59 : decode cX7_all 59 = .ok (.bipush 6, 2) := by decide +kernel
theorem dX7_all_61 : decode cX7_all 61 = .ok (.invokevirtual 161, 3) := by decide +kernel
theorem dX7_all_64 : decode cX7_all 64 = .ok (.ireturn, 1) := by decide +kernel
theorem dX7_when_0 : decode cX7_when 0 = .ok (.aload_n 0, 1) := by decide +kernel
theorem dX7_when_1 : decode cX7_when 1 = .ok (.getfield 26, 3) := by decide +kernel
theorem dX7_when_4 : decode cX7_when 4 = .ok (.iload_n 1, 1) := by decide +kernel
theorem dX7_when_5 : decode cX7_when 5 = .ok (.invokevirtual 164, 3) := by decide +kernel
theorem dX7_when_8 : decode cX7_when 8 = .ok (.ifCond .eq 14, 3) := by decide +kernel
theorem dX7_when_11 : decode cX7_when 11 = .ok (.aload_n 0, 1) := by decide +kernel
theorem dX7_when_12 : decode cX7_when 12 = .ok (.getfield 45, 3) := by decide +kernel
theorem dX7_when_15 : decode cX7_when 15 = .ok (.iload_n 1, 1) := by decide +kernel
theorem dX7_when_16 : decode cX7_when 16 = .ok (.invokevirtual 220, 3) := by decide +kernel
theorem dX7_when_19 : decode cX7_when 19 = .ok (.goto 5, 3) := by decide +kernel
theorem dX7_when_22 : decode cX7_when 22 = .ok (.ldc 73, 2) := by decide +kernel
theorem dX7_when_24 : decode cX7_when 24 = .ok (.ireturn, 1) := by decide +kernel
theorem dX7_empty_0 : decode cX7_empty 0 = .ok (.aload_n 0, 1) := by decide +kernel
theorem dX7_empty_1 : decode cX7_empty 1 = .ok (.invokevirtual 149, 3) := by decide +kernel
theorem dX7_empty_4 : decode cX7_empty 4 = .ok (.ifCond .eq 8, 3) := by decide +kernel
theorem dX7_empty_7 : decode cX7_empty 7 = .ok (.ldc 148, 2) := by decide +kernel
theorem dX7_empty_9 : decode cX7_empty 9 = .ok (.goto 10, 3) := by decide +kernel
theorem dX7_empty_12 : decode cX7_empty 12 = .ok (.aload_n 0, 1) := by decide +kernel
theorem dX7_empty_13 : decode cX7_empty 13 = .ok (.getfield 45, 3) := by decide +kernel
theorem dX7_empty_16 : decode cX7_empty 16 = .ok (.invokevirtual 223, 3) := by decide +kernel
theorem dX7_empty_19 : decode cX7_empty 19 = .ok (.ireturn, 1) := by decide +kernel
theorem dX7_best_0 : decode cX7_best 0 = .ok (.aload_n 0, 1) := by decide +kernel
theorem dX7_best_1 : decode cX7_best 1 = .ok (.getfield 26, 3) := by decide +kernel
theorem dX7_best_4 : decode cX7_best 4 = .ok (.iload_n 1, 1) := by decide +kernel
theorem dX7_best_5 : decode cX7_best 5 = .ok (.invokevirtual 164, 3) := by decide +kernel
theorem dX7_best_8 : decode cX7_best 8 = .ok (.ifCond .eq 22, 3) := by decide +kernel
theorem dX7_best_11 : decode cX7_best 11 = .ok (.iload_n 2, 1) := by decide +kernel
theorem dX7_best_12 : decode cX7_best 12 = .ok (.iconst 1, 1) := by decide +kernel
theorem dX7_best_13 : decode cX7_best 13 = .ok (.if_icmp .lt 17, 3) := by decide +kernel
theorem dX7_best_16 : decode cX7_best 16 = .ok (.iload_n 2, 1) := by decide +kernel
theorem dX7_best_17 : decode cX7_best 17 = .ok (.bipush 60, 2) := by decide +kernel
theorem dX7_best_19 : decode cX7_best 19 = .ok (.if_icmp .gt 11, 3) := by decide +kernel
theorem dX7_best_22 : decode cX7_best 22 = .ok (.iload_n 3, 1) := by decide +kernel
theorem dX7_best_23 : decode cX7_best 23 = .ok (.iconst 2, 1) := by decide +kernel
theorem dX7_best_24 : decode cX7_best 24 = .ok (.invokestatic 216, 3) := by decide +kernel
theorem dX7_best_27 : decode cX7_best 27 = .ok (.ifCond .ne 6, 3) := by decide +kernel
theorem dX7_best_30 : decode cX7_best 30 = .ok (.ldc 73, 2) := by decide +kernel
theorem dX7_best_32 : decode cX7_best 32 = .ok (.ireturn, 1) := by decide +kernel
theorem dX7_best_33 : decode cX7_best 33 = .ok (.aload_n 0, 1) := by decide +kernel
theorem dX7_best_34 : decode cX7_best 34 = .ok (.getfield 26, 3) := by decide +kernel
theorem dX7_best_37 : decode cX7_best 37 = .ok (.iload_n 1, 1) := by decide +kernel
theorem dX7_best_38 : decode cX7_best 38 = .ok (.invokevirtual 173, 3) := by decide +kernel
theorem dX7_best_41 : decode cX7_best 41 = .ok (.ifCond .ne 6, 3) := by decide +kernel
theorem dX7_best_44 : decode cX7_best 44 = .ok (.ldc 148, 2) := by decide +kernel
theorem dX7_best_46 : decode cX7_best 46 = .ok (.ireturn, 1) := by decide +kernel
theorem dX7_best_47 : decode cX7_best 47 = .ok (.aload_n 0, 1) := by decide +kernel
theorem dX7_best_48 : decode cX7_best 48 = .ok (.getfield 45, 3) := by decide +kernel
theorem dX7_best_51 : decode cX7_best 51 = .ok (.iload_n 1, 1) := by decide +kernel
theorem dX7_best_52 : decode cX7_best 52 = .ok (.iload_n 2, 1) := by decide +kernel
theorem dX7_best_53 : decode cX7_best 53 = .ok (.iload_n 3, 1) := by decide +kernel
theorem dX7_best_54 : decode cX7_best 54 = .ok (.invokevirtual 226, 3) := by decide +kernel
theorem dX7_best_57 : decode cX7_best 57 = .ok (.ireturn, 1) := by decide +kernel
theorem dX7_order_0 : decode cX7_order 0 = .ok (.aload_n 0, 1) := by decide +kernel
theorem dX7_order_1 : decode cX7_order 1 = .ok (.invokevirtual 149, 3) := by decide +kernel
theorem dX7_order_4 : decode cX7_order 4 = .ok (.ifCond .eq 6, 3) := by decide +kernel
theorem dX7_order_7 : decode cX7_order 7 = .ok (.ldc 148, 2) := by decide +kernel
theorem dX7_order_9 : decode cX7_order 9 = .ok (.ireturn, 1) := by decide +kernel
theorem dX7_order_10 : decode cX7_order 10 = .ok (.iload_n 1, 1) := by decide +kernel
theorem dX7_order_11 : decode cX7_order 11 = .ok (.iconst 1, 1) := by decide +kernel
theorem dX7_order_12 : decode cX7_order 12 = .ok (.if_icmp .lt 14, 3) := by decide +kernel
theorem dX7_order_15 : decode cX7_order 15 = .ok (.iload_n 1, 1) := by decide +kernel
theorem dX7_order_16 : decode cX7_order 16 = .ok (.bipush 40, 2) := by decide +kernel
theorem dX7_order_18 : decode cX7_order 18 = .ok (.if_icmp .gt 8, 3) := by decide +kernel
theorem dX7_order_21 : decode cX7_order 21 = .ok (.iload_n 2, 1) := by decide +kernel
theorem dX7_order_22 : decode cX7_order 22 = .ok (.iconst (-1), 1) := by decide +kernel
theorem dX7_order_23 : decode cX7_order 23 = .ok (.if_icmp .ge 6, 3) := by decide +kernel
theorem dX7_order_26 : decode cX7_order 26 = .ok (.ldc 73, 2) := by decide +kernel
theorem dX7_order_28 : decode cX7_order 28 = .ok (.ireturn, 1) := by decide +kernel
theorem dX7_order_29 : decode cX7_order 29 = .ok (.iload_n 2, 1) := by decide +kernel
theorem dX7_order_30 : decode cX7_order 30 = .ok (.aload_n 0, 1) := by decide +kernel
theorem dX7_order_31 : decode cX7_order 31 = .ok (.getfield 26, 3) := by decide +kernel
theorem dX7_order_34 : decode cX7_order 34 = .ok (.getfield 138, 3) := by decide +kernel
theorem dX7_order_37 : decode cX7_order 37 = .ok (.if_icmp .lt 6, 3) := by decide +kernel
theorem dX7_order_40 : decode cX7_order 40 = .ok (.ldc 229, 2) := by decide +kernel
theorem dX7_order_42 : decode cX7_order 42 = .ok (.ireturn, 1) := by decide +kernel
theorem dX7_order_43 : decode cX7_order 43 = .ok (.aload_n 0, 1) := by decide +kernel
theorem dX7_order_44 : decode cX7_order 44 = .ok (.getfield 54, 3) := by decide +kernel
theorem dX7_order_47 : decode cX7_order 47 = .ok (.aload_n 0, 1) := by decide +kernel
theorem dX7_order_48 : decode cX7_order 48 = .ok (.getfield 26, 3) := by decide +kernel
theorem dX7_order_51 : decode cX7_order 51 = .ok (.iload_n 1, 1) := by decide +kernel
theorem dX7_order_52 : decode cX7_order 52 = .ok (.invokevirtual 230, 3) := by decide +kernel
theorem dX7_order_55 : decode cX7_order 55 = .ok (.iload_n 2, 1) := by decide +kernel
theorem dX7_order_56 : decode cX7_order 56 = .ok (.ifCond .ge 13, 3) := by decide +kernel
theorem dX7_order_59 : decode cX7_order 59 = .ok (.aload_n 0, 1) := by decide +kernel
theorem dX7_order_60 : decode cX7_order 60 = .ok (.getfield 54, 3) := by decide +kernel
theorem dX7_order_63 : decode cX7_order 63 = .ok (.invokevirtual 234, 3) := by decide +kernel
theorem dX7_order_66 : decode cX7_order 66 = .ok (.goto 15, 3) := by decide +kernel
theorem dX7_order_69 : decode cX7_order 69 = .ok (.aload_n 0, 1) := by decide +kernel
theorem dX7_order_70 : decode cX7_order 70 = .ok (.getfield 54, 3) := by decide +kernel
theorem dX7_order_73 : decode cX7_order 73 = .ok (.aload_n 0, 1) := by decide +kernel
theorem dX7_order_74 : decode cX7_order 74 = .ok (.getfield 26, 3) := by decide +kernel
theorem dX7_order_77 : decode cX7_order 77 = .ok (.iload_n 2, 1) := by decide +kernel
theorem dX7_order_78 : decode cX7_order 78 = .ok (.invokevirtual 237, 3) := by decide +kernel
theorem dX7_order_81 : decode cX7_order 81 = .ok (.ireturn, 1) := by decide +kernel
theorem dX7_marks_0 : decode cX7_marks 0 = .ok (.aload_n 0, 1) := by decide +kernel
theorem dX7_marks_1 : decode cX7_marks 1 = .ok (.invokevirtual 149, 3) := by decide +kernel
theorem dX7_marks_4 : decode cX7_marks 4 = .ok (.ifCond .eq 6, 3) := by decide +kernel
theorem dX7_marks_7 : decode cX7_marks 7 = .ok (.ldc 148, 2) := by decide +kernel
theorem dX7_marks_9 : decode cX7_marks 9 = .ok (.ireturn, 1) := by decide +kernel
theorem dX7_marks_10 : decode cX7_marks 10 = .ok (.iload_n 1, 1) := by decide +kernel
theorem dX7_marks_11 : decode cX7_marks 11 = .ok (.iconst 1, 1) := by decide +kernel
theorem dX7_marks_12 : decode cX7_marks 12 = .ok (.if_icmp .lt 17, 3) := by decide +kernel
theorem dX7_marks_15 : decode cX7_marks 15 = .ok (.iload_n 1, 1) := by decide +kernel
theorem dX7_marks_16 : decode cX7_marks 16 = .ok (.bipush 40, 2) := by decide +kernel
theorem dX7_marks_18 : decode cX7_marks 18 = .ok (.if_icmp .gt 11, 3) := by decide +kernel
theorem dX7_marks_21 : decode cX7_marks 21 = .ok (.iload_n 2, 1) := by decide +kernel
theorem dX7_marks_22 : decode cX7_marks 22 = .ok (.iconst 2, 1) := by decide +kernel
theorem dX7_marks_23 : decode cX7_marks 23 = .ok (.invokestatic 216, 3) := by decide +kernel
theorem dX7_marks_26 : decode cX7_marks 26 = .ok (.ifCond .ne 6, 3) := by decide +kernel
theorem dX7_marks_29 : decode cX7_marks 29 = .ok (.ldc 73, 2) := by decide +kernel
theorem dX7_marks_31 : decode cX7_marks 31 = .ok (.ireturn, 1) := by decide +kernel
theorem dX7_marks_32 : decode cX7_marks 32 = .ok (.aload_n 0, 1) := by decide +kernel
theorem dX7_marks_33 : decode cX7_marks 33 = .ok (.getfield 45, 3) := by decide +kernel
theorem dX7_marks_36 : decode cX7_marks 36 = .ok (.iload_n 1, 1) := by decide +kernel
theorem dX7_marks_37 : decode cX7_marks 37 = .ok (.invokevirtual 241, 3) := by decide +kernel
theorem dX7_marks_40 : decode cX7_marks 40 = .ok (.istore_n 3, 1) := by decide +kernel
theorem dX7_marks_41 : decode cX7_marks 41 = .ok (.iload_n 2, 1) := by decide +kernel
theorem dX7_marks_42 : decode cX7_marks 42 = .ok (.ifCond .ne 10, 3) := by decide +kernel
theorem dX7_marks_45 : decode cX7_marks 45 = .ok (.iload_n 3, 1) := by decide +kernel
theorem dX7_marks_46 : decode cX7_marks 46 = .ok (.invokestatic 189, 3) := by decide +kernel
theorem dX7_marks_49 : decode cX7_marks 49 = .ok (.goto 4, 3) := by decide +kernel
theorem dX7_marks_52 : decode cX7_marks 52 = .ok (.iload_n 3, 1) := by decide +kernel
theorem dX7_marks_53 : decode cX7_marks 53 = .ok (.ireturn, 1) := by decide +kernel
theorem dX7_sets_0 : decode cX7_sets 0 = .ok (.aload_n 0, 1) := by decide +kernel
theorem dX7_sets_1 : decode cX7_sets 1 = .ok (.invokevirtual 149, 3) := by decide +kernel
theorem dX7_sets_4 : decode cX7_sets 4 = .ok (.ifCond .eq 6, 3) := by decide +kernel
theorem dX7_sets_7 : decode cX7_sets 7 = .ok (.ldc 148, 2) := by decide +kernel
theorem dX7_sets_9 : decode cX7_sets 9 = .ok (.ireturn, 1) := by decide +kernel
theorem dX7_sets_10 : decode cX7_sets 10 = .ok (.iload_n 1, 1) := by decide +kernel
theorem dX7_sets_11 : decode cX7_sets 11 = .ok (.ifCond .lt 17, 3) := by decide +kernel
theorem dX7_sets_14 : decode cX7_sets 14 = .ok (.iload_n 1, 1) := by decide +kernel
theorem dX7_sets_15 : decode cX7_sets 15 = .ok (.bipush 99, 2) := by decide +kernel
theorem dX7_sets_17 : decode cX7_sets 17 = .ok (.if_icmp .gt 11, 3) := by decide +kernel
theorem dX7_sets_20 : decode cX7_sets 20 = .ok (.iload_n 2, 1) := by decide +kernel
theorem dX7_sets_21 : decode cX7_sets 21 = .ok (.iconst 3, 1) := by decide +kernel
theorem dX7_sets_22 : decode cX7_sets 22 = .ok (.invokestatic 216, 3) := by decide +kernel
theorem dX7_sets_25 : decode cX7_sets 25 = .ok (.ifCond .ne 6, 3) := by decide +kernel
theorem dX7_sets_28 : decode cX7_sets 28 = .ok (.ldc 73, 2) := by decide +kernel
theorem dX7_sets_30 : decode cX7_sets 30 = .ok (.ireturn, 1) := by decide +kernel
theorem dX7_sets_31 : decode cX7_sets 31 = .ok (.aload_n 0, 1) := by decide +kernel
theorem dX7_sets_32 : decode cX7_sets 32 = .ok (.getfield 45, 3) := by decide +kernel
theorem dX7_sets_35 : decode cX7_sets 35 = .ok (.iload_n 1, 1) := by decide +kernel
theorem dX7_sets_36 : decode cX7_sets 36 = .ok (.iload_n 2, 1) := by decide +kernel
theorem dX7_sets_37 : decode cX7_sets 37 = .ok (.invokevirtual 244, 3) := by decide +kernel
theorem dX7_sets_40 : decode cX7_sets 40 = .ok (.ireturn, 1) := by decide +kernel
theorem dX7_share_0 : decode cX7_share 0 = .ok (.aload_n 0, 1) := by decide +kernel
theorem dX7_share_1 : decode cX7_share 1 = .ok (.getfield 26, 3) := by decide +kernel
theorem dX7_share_4 : decode cX7_share 4 = .ok (.iload_n 1, 1) := by decide +kernel
theorem dX7_share_5 : decode cX7_share 5 = .ok (.invokevirtual 164, 3) := by decide +kernel
theorem dX7_share_8 : decode cX7_share 8 = .ok (.ifCond .eq 14, 3) := by decide +kernel
theorem dX7_share_11 : decode cX7_share 11 = .ok (.iload_n 2, 1) := by decide +kernel
theorem dX7_share_12 : decode cX7_share 12 = .ok (.ifCond .lt 10, 3) := by decide +kernel
theorem dX7_share_15 : decode cX7_share 15 = .ok (.iload_n 2, 1) := by decide +kernel
theorem dX7_share_16 : decode cX7_share 16 = .ok (.sipush 999, 3) := by decide +kernel
theorem dX7_share_19 : decode cX7_share 19 = .ok (.if_icmp .le 6, 3) := by decide +kernel
theorem dX7_share_22 : decode cX7_share 22 = .ok (.ldc 73, 2) := by decide +kernel
theorem dX7_share_24 : decode cX7_share 24 = .ok (.ireturn, 1) := by decide +kernel
theorem dX7_share_25 : decode cX7_share 25 = .ok (.aload_n 0, 1) := by decide +kernel
theorem dX7_share_26 : decode cX7_share 26 = .ok (.getfield 26, 3) := by decide +kernel
theorem dX7_share_29 : decode cX7_share 29 = .ok (.iload_n 1, 1) := by decide +kernel
theorem dX7_share_30 : decode cX7_share 30 = .ok (.iload_n 2, 1) := by decide +kernel
theorem dX7_share_31 : decode cX7_share 31 = .ok (.invokevirtual 248, 3) := by decide +kernel
theorem dX7_share_34 : decode cX7_share 34 = .ok (.ireturn, 1) := by decide +kernel
theorem dX7_byTurns_0 : decode cX7_byTurns 0 = .ok (.aload_n 0, 1) := by decide +kernel
theorem dX7_byTurns_1 : decode cX7_byTurns 1 = .ok (.invokevirtual 149, 3) := by decide +kernel
theorem dX7_byTurns_4 : decode cX7_byTurns 4 = .ok (.ifCond .eq 6, 3) := by decide +kernel
theorem dX7_byTurns_7 : decode cX7_byTurns 7 = .ok (.ldc 148, 2) := by decide +kernel
theorem dX7_byTurns_9 : decode cX7_byTurns 9 = .ok (.ireturn, 1) := by decide +kernel
theorem dX7_byTurns_10 : decode cX7_byTurns 10 = .ok (.iload_n 1, 1) := by decide +kernel
theorem dX7_byTurns_11 : decode cX7_byTurns 11 = .ok (.ifCond .lt 19, 3) := by decide +kernel
theorem dX7_byTurns_14 : decode cX7_byTurns 14 = .ok (.iload_n 1, 1) := by decide +kernel
theorem dX7_byTurns_15 : decode cX7_byTurns 15 = .ok (.iconst 4, 1) := by decide +kernel
theorem dX7_byTurns_16 : decode cX7_byTurns 16 = .ok (.if_icmp .gt 14, 3) := by decide +kernel
theorem dX7_byTurns_19 : decode cX7_byTurns 19 = .ok (.iload_n 2, 1) := by decide +kernel
theorem dX7_byTurns_20 : decode cX7_byTurns 20 = .ok (.iconst 1, 1) := by decide +kernel
theorem dX7_byTurns_21 : decode cX7_byTurns 21 = .ok (.if_icmp .lt 9, 3) := by decide +kernel
theorem dX7_byTurns_24 : decode cX7_byTurns 24 = .ok (.iload_n 2, 1) := by decide +kernel
theorem dX7_byTurns_25 : decode cX7_byTurns 25 = .ok (.bipush 20, 2) := by decide +kernel
theorem dX7_byTurns_27 : decode cX7_byTurns 27 = .ok (.if_icmp .le 6, 3) := by decide +kernel
theorem dX7_byTurns_30 : decode cX7_byTurns 30 = .ok (.ldc 73, 2) := by decide +kernel
theorem dX7_byTurns_32 : decode cX7_byTurns 32 = .ok (.ireturn, 1) := by decide +kernel
theorem dX7_byTurns_33 : decode cX7_byTurns 33 = .ok (.aload_n 0, 1) := by decide +kernel
theorem dX7_byTurns_34 : decode cX7_byTurns 34 = .ok (.getfield 45, 3) := by decide +kernel
theorem dX7_byTurns_37 : decode cX7_byTurns 37 = .ok (.iload_n 1, 1) := by decide +kernel
theorem dX7_byTurns_38 : decode cX7_byTurns 38 = .ok (.iload_n 2, 1) := by decide +kernel
theorem dX7_byTurns_39 : decode cX7_byTurns 39 = .ok (.invokevirtual 251, 3) := by decide +kernel
theorem dX7_byTurns_42 : decode cX7_byTurns 42 = .ok (.ireturn, 1) := by decide +kernel
theorem dX7_who_0 : decode cX7_who 0 = .ok (.aload_n 0, 1) := by decide +kernel
theorem dX7_who_1 : decode cX7_who 1 = .ok (.getfield 26, 3) := by decide +kernel
theorem dX7_who_4 : decode cX7_who 4 = .ok (.iload_n 1, 1) := by decide +kernel
theorem dX7_who_5 : decode cX7_who 5 = .ok (.invokevirtual 164, 3) := by decide +kernel
theorem dX7_who_8 : decode cX7_who 8 = .ok (.ifCond .eq 33, 3) := by decide +kernel
theorem dX7_who_11 : decode cX7_who 11 = .ok (.iload_n 2, 1) := by decide +kernel
theorem dX7_who_12 : decode cX7_who 12 = .ok (.iconst 2, 1) := by decide +kernel
theorem dX7_who_13 : decode cX7_who 13 = .ok (.invokestatic 216, 3) := by decide +kernel
theorem dX7_who_16 : decode cX7_who 16 = .ok (.ifCond .eq 25, 3) := by decide +kernel
theorem dX7_who_19 : decode cX7_who 19 = .ok (.aload_n 0, 1) := by decide +kernel
theorem dX7_who_20 : decode cX7_who 20 = .ok (.getfield 26, 3) := by decide +kernel
theorem dX7_who_23 : decode cX7_who 23 = .ok (.iload_n 3, 1) := by decide +kernel
theorem dX7_who_24 : decode cX7_who 24 = .ok (.invokevirtual 164, 3) := by decide +kernel
theorem dX7_who_27 : decode cX7_who 27 = .ok (.ifCond .eq 14, 3) := by decide +kernel
theorem dX7_who_30 : decode cX7_who 30 = .ok (.aload_n 0, 1) := by decide +kernel
theorem dX7_who_31 : decode cX7_who 31 = .ok (.iload 4, 2) := by decide +kernel
theorem dX7_who_33 : decode cX7_who 33 = .ok (.iload 6, 2) := by decide +kernel
theorem dX7_who_35 : decode cX7_who 35 = .ok (.invokevirtual 254, 3) := by decide +kernel
theorem dX7_who_38 : decode cX7_who 38 = .ok (.ifCond .ne 6, 3) := by decide +kernel
theorem dX7_who_41 : decode cX7_who 41 = .ok (.ldc 73, 2) := by decide +kernel
theorem dX7_who_43 : decode cX7_who 43 = .ok (.ireturn, 1) := by decide +kernel
theorem dX7_who_44 : decode cX7_who 44 = .ok (.aload_n 0, 1) := by decide +kernel
theorem dX7_who_45 : decode cX7_who 45 = .ok (.iload 4, 2) := by decide +kernel
theorem dX7_who_47 : decode cX7_who 47 = .ok (.iload 5, 2) := by decide +kernel
theorem dX7_who_49 : decode cX7_who 49 = .ok (.iload 6, 2) := by decide +kernel
theorem dX7_who_51 : decode cX7_who 51 = .ok (.invokevirtual 257, 3) := by decide +kernel
theorem dX7_who_54 : decode cX7_who 54 = .ok (.istore 7, 2) := by decide +kernel
theorem dX7_who_56 : decode cX7_who 56 = .ok (.iload 7, 2) := by decide +kernel
theorem dX7_who_58 : decode cX7_who 58 = .ok (.ifCond .eq 10, 3) := by decide +kernel
theorem dX7_who_61 : decode cX7_who 61 = .ok (.aload_n 0, 1) := by decide +kernel
theorem dX7_who_62 : decode cX7_who 62 = .ok (.iload 7, 2) := by decide +kernel
theorem dX7_who_64 : decode cX7_who 64 = .ok (.invokevirtual 74, 3) := by decide +kernel
theorem dX7_who_67 : decode cX7_who 67 = .ok (.ireturn, 1) := by decide +kernel
theorem dX7_who_68 : decode cX7_who 68 = .ok (.aload_n 0, 1) := by decide +kernel
theorem dX7_who_69 : decode cX7_who 69 = .ok (.getfield 10, 3) := by decide +kernel
theorem dX7_who_72 : decode cX7_who 72 = .ok (.iload 4, 2) := by decide +kernel
theorem dX7_who_74 : decode cX7_who 74 = .ok (.invokevirtual 260, 3) := by decide +kernel
theorem dX7_who_77 : decode cX7_who 77 = .ok (.astore 8, 2) := by decide +kernel
theorem dX7_who_79 : decode cX7_who 79 = .ok (.iload_n 2, 1) := by decide +kernel
theorem dX7_who_80 : decode cX7_who 80 = .ok (.ifCond .ne 23, 3) := by decide +kernel
theorem dX7_who_83 : decode cX7_who 83 = .ok (.aload_n 0, 1) := by decide +kernel
theorem dX7_who_84 : decode cX7_who 84 = .ok (.aload_n 0, 1) := by decide +kernel
theorem dX7_who_85 : decode cX7_who 85 = .ok (.getfield 45, 3) := by decide +kernel
theorem dX7_who_88 : decode cX7_who 88 = .ok (.iload_n 1, 1) := by decide +kernel
theorem dX7_who_89 : decode cX7_who 89 = .ok (.iload_n 3, 1) := by decide +kernel
theorem dX7_who_90 : decode cX7_who 90 = .ok (.aload 8, 2) := by decide +kernel
theorem dX7_who_92 : decode cX7_who 92 = .ok (.iload 5, 2) := by decide +kernel
theorem dX7_who_94 : decode cX7_who 94 = .ok (.iload 6, 2) := by decide +kernel
theorem dX7_who_96 : decode cX7_who 96 = .ok (.invokevirtual 264, 3) := by decide +kernel
theorem dX7_who_99 : decode cX7_who 99 = .ok (.invokevirtual 82, 3) := by decide +kernel
theorem dX7_who_102 : decode cX7_who 102 = .ok (.ireturn, 1) := by decide +kernel
theorem dX7_who_103 : decode cX7_who 103 = .ok (.aload_n 0, 1) := by decide +kernel
theorem dX7_who_104 : decode cX7_who 104 = .ok (.aload_n 0, 1) := by decide +kernel
theorem dX7_who_105 : decode cX7_who 105 = .ok (.getfield 45, 3) := by decide +kernel
theorem dX7_who_108 : decode cX7_who 108 = .ok (.iload_n 1, 1) := by decide +kernel
theorem dX7_who_109 : decode cX7_who 109 = .ok (.iload_n 3, 1) := by decide +kernel
theorem dX7_who_110 : decode cX7_who 110 = .ok (.aload 8, 2) := by decide +kernel
theorem dX7_who_112 : decode cX7_who 112 = .ok (.iload 5, 2) := by decide +kernel
theorem dX7_who_114 : decode cX7_who 114 = .ok (.iload 6, 2) := by decide +kernel
theorem dX7_who_116 : decode cX7_who 116 = .ok (.invokevirtual 268, 3) := by decide +kernel
theorem dX7_who_119 : decode cX7_who 119 = .ok (.invokevirtual 82, 3) := by decide +kernel
theorem dX7_who_122 : decode cX7_who 122 = .ok (.ireturn, 1) := by decide +kernel
theorem dX7_colours_0 : decode cX7_colours 0 = .ok (.aload_n 0, 1) := by decide +kernel
theorem dX7_colours_1 : decode cX7_colours 1 = .ok (.getfield 26, 3) := by decide +kernel
theorem dX7_colours_4 : decode cX7_colours 4 = .ok (.iload_n 1, 1) := by decide +kernel
theorem dX7_colours_5 : decode cX7_colours 5 = .ok (.invokevirtual 164, 3) := by decide +kernel
theorem dX7_colours_8 : decode cX7_colours 8 = .ok (.ifCond .eq 13, 3) := by decide +kernel
theorem dX7_colours_11 : decode cX7_colours 11 = .ok (.aload_n 0, 1) := by decide +kernel
theorem dX7_colours_12 : decode cX7_colours 12 = .ok (.iload_n 2, 1) := by decide +kernel
theorem dX7_colours_13 : decode cX7_colours 13 = .ok (.iload 4, 2) := by decide +kernel
theorem dX7_colours_15 : decode cX7_colours 15 = .ok (.invokevirtual 254, 3) := by decide +kernel
theorem dX7_colours_18 : decode cX7_colours 18 = .ok (.ifCond .ne 6, 3) := by decide +kernel
theorem dX7_colours_21 : decode cX7_colours 21 = .ok (.ldc 73, 2) := by decide +kernel
theorem dX7_colours_23 : decode cX7_colours 23 = .ok (.ireturn, 1) := by decide +kernel
theorem dX7_colours_24 : decode cX7_colours 24 = .ok (.aload_n 0, 1) := by decide +kernel
theorem dX7_colours_25 : decode cX7_colours 25 = .ok (.iload_n 2, 1) := by decide +kernel
theorem dX7_colours_26 : decode cX7_colours 26 = .ok (.iload_n 3, 1) := by decide +kernel
theorem dX7_colours_27 : decode cX7_colours 27 = .ok (.iload 4, 2) := by decide +kernel
theorem dX7_colours_29 : decode cX7_colours 29 = .ok (.invokevirtual 257, 3) := by decide +kernel
theorem dX7_colours_32 : decode cX7_colours 32 = .ok (.istore 5, 2) := by decide +kernel
theorem dX7_colours_34 : decode cX7_colours 34 = .ok (.iload 5, 2) := by decide +kernel
theorem dX7_colours_36 : decode cX7_colours 36 = .ok (.ifCond .eq 10, 3) := by decide +kernel
theorem dX7_colours_39 : decode cX7_colours 39 = .ok (.aload_n 0, 1) := by decide +kernel
theorem dX7_colours_40 : decode cX7_colours 40 = .ok (.iload 5, 2) := by decide +kernel
theorem dX7_colours_42 : decode cX7_colours 42 = .ok (.invokevirtual 74, 3) := by decide +kernel
theorem dX7_colours_45 : decode cX7_colours 45 = .ok (.ireturn, 1) := by decide +kernel
theorem dX7_colours_46 : decode cX7_colours 46 = .ok (.aload_n 0, 1) := by decide +kernel
theorem dX7_colours_47 : decode cX7_colours 47 = .ok (.aload_n 0, 1) := by decide +kernel
theorem dX7_colours_48 : decode cX7_colours 48 = .ok (.getfield 45, 3) := by decide +kernel
theorem dX7_colours_51 : decode cX7_colours 51 = .ok (.iload_n 1, 1) := by decide +kernel
theorem dX7_colours_52 : decode cX7_colours 52 = .ok (.aload_n 0, 1) := by decide +kernel
theorem dX7_colours_53 : decode cX7_colours 53 = .ok (.getfield 10, 3) := by decide +kernel
theorem dX7_colours_56 : decode cX7_colours 56 = .ok (.iload_n 2, 1) := by decide +kernel
theorem dX7_colours_57 : decode cX7_colours 57 = .ok (.invokevirtual 260, 3) := by decide +kernel
theorem dX7_colours_60 : decode cX7_colours 60 = .ok (.iload_n 3, 1) := by decide +kernel
theorem dX7_colours_61 : decode cX7_colours 61 = .ok (.iload 4, 2) := by decide +kernel
theorem dX7_colours_63 : decode cX7_colours 63 = .ok (.invokevirtual 271, 3) := by decide +kernel
theorem dX7_colours_66 : decode cX7_colours 66 = .ok (.invokevirtual 82, 3) := by decide +kernel
theorem dX7_colours_69 : decode cX7_colours 69 = .ok (.ireturn, 1) := by decide +kernel
theorem dX7_sleep_0 : decode cX7_sleep 0 = .ok (.aload_n 0, 1) := by decide +kernel
theorem dX7_sleep_1 : decode cX7_sleep 1 = .ok (.getfield 26, 3) := by decide +kernel
theorem dX7_sleep_4 : decode cX7_sleep 4 = .ok (.iload_n 1, 1) := by decide +kernel
theorem dX7_sleep_5 : decode cX7_sleep 5 = .ok (.invokevirtual 164, 3) := by decide +kernel
theorem dX7_sleep_8 : decode cX7_sleep 8 = .ok (.ifCond .eq 32, 3) := by decide +kernel
theorem dX7_sleep_11 : decode cX7_sleep 11 = .ok (.iload_n 2, 1) := by decide +kernel
theorem dX7_sleep_12 : decode cX7_sleep 12 = .ok (.ifCond .lt 28, 3) := by decide +kernel
theorem dX7_sleep_15 : decode cX7_sleep 15 = .ok (.iload_n 2, 1) := by decide +kernel
theorem dX7_sleep_16 : decode cX7_sleep 16 = .ok (.bipush 60, 2) := by decide +kernel
theorem dX7_sleep_18 : decode cX7_sleep 18 = .ok (.if_icmp .gt 22, 3) := by decide +kernel
theorem dX7_sleep_21 : decode cX7_sleep 21 = .ok (.iload_n 3, 1) := by decide +kernel
theorem dX7_sleep_22 : decode cX7_sleep 22 = .ok (.ifCond .lt 18, 3) := by decide +kernel
theorem dX7_sleep_25 : decode cX7_sleep 25 = .ok (.iload_n 3, 1) := by decide +kernel
theorem dX7_sleep_26 : decode cX7_sleep 26 = .ok (.bipush 10, 2) := by decide +kernel
theorem dX7_sleep_28 : decode cX7_sleep 28 = .ok (.if_icmp .gt 12, 3) := by decide +kernel
theorem dX7_sleep_31 : decode cX7_sleep 31 = .ok (.iload 4, 2) := by decide +kernel
theorem dX7_sleep_33 : decode cX7_sleep 33 = .ok (.iconst 2, 1) := by decide +kernel
theorem dX7_sleep_34 : decode cX7_sleep 34 = .ok (.invokestatic 216, 3) := by decide +kernel
theorem dX7_sleep_37 : decode cX7_sleep 37 = .ok (.ifCond .ne 7, 3) := by decide +kernel
theorem dX7_sleep_40 : decode cX7_sleep 40 = .ok (.ldc2_w 275, 3) := by decide +kernel
theorem dX7_sleep_43 : decode cX7_sleep 43 = .ok (.lreturn, 1) := by decide +kernel
theorem dX7_sleep_44 : decode cX7_sleep 44 = .ok (.aload_n 0, 1) := by decide +kernel
theorem dX7_sleep_45 : decode cX7_sleep 45 = .ok (.getfield 45, 3) := by decide +kernel
theorem dX7_sleep_48 : decode cX7_sleep 48 = .ok (.iload_n 1, 1) := by decide +kernel
theorem dX7_sleep_49 : decode cX7_sleep 49 = .ok (.iload_n 2, 1) := by decide +kernel
theorem dX7_sleep_50 : decode cX7_sleep 50 = .ok (.iload_n 3, 1) := by decide +kernel
theorem dX7_sleep_51 : decode cX7_sleep 51 = .ok (.iload 4, 2) := by decide +kernel
theorem dX7_sleep_53 : decode cX7_sleep 53 = .ok (.invokevirtual 277, 3) := by decide +kernel
theorem dX7_sleep_56 : decode cX7_sleep 56 = .ok (.lreturn, 1) := by decide +kernel
theorem dX7_drawn_0 : decode cX7_drawn 0 = .ok (.aload_n 0, 1) := by decide +kernel
theorem dX7_drawn_1 : decode cX7_drawn 1 = .ok (.invokevirtual 149, 3) := by decide +kernel
theorem dX7_drawn_4 : decode cX7_drawn 4 = .ok (.ifCond .eq 6, 3) := by decide +kernel
theorem dX7_drawn_7 : decode cX7_drawn 7 = .ok (.ldc 148, 2) := by decide +kernel
theorem dX7_drawn_9 : decode cX7_drawn 9 = .ok (.ireturn, 1) := by decide +kernel
theorem dX7_drawn_10 : decode cX7_drawn 10 = .ok (.iload_n 1, 1) := by decide +kernel
theorem dX7_drawn_11 : decode cX7_drawn 11 = .ok (.ifCond .lt 29, 3) := by decide +kernel
theorem dX7_drawn_14 : decode cX7_drawn 14 = .ok (.iload_n 1, 1) := by decide +kernel
theorem dX7_drawn_15 : decode cX7_drawn 15 = .ok (.bipush 60, 2) := by decide +kernel
theorem dX7_drawn_17 : decode cX7_drawn 17 = .ok (.if_icmp .gt 23, 3) := by decide +kernel
theorem dX7_drawn_20 : decode cX7_drawn 20 = .ok (.iload_n 2, 1) := by decide +kernel
theorem dX7_drawn_21 : decode cX7_drawn 21 = .ok (.iconst 1, 1) := by decide +kernel
theorem dX7_drawn_22 : decode cX7_drawn 22 = .ok (.if_icmp .lt 18, 3) := by decide +kernel
theorem dX7_drawn_25 : decode cX7_drawn 25 = .ok (.iload_n 2, 1) := by decide +kernel
theorem dX7_drawn_26 : decode cX7_drawn 26 = .ok (.ldc_w 281, 3) := by decide +kernel
theorem dX7_drawn_29 : decode cX7_drawn 29 = .ok (.if_icmp .gt 11, 3) := by decide +kernel
theorem dX7_drawn_32 : decode cX7_drawn 32 = .ok (.iload_n 3, 1) := by decide +kernel
theorem dX7_drawn_33 : decode cX7_drawn 33 = .ok (.iconst 2, 1) := by decide +kernel
theorem dX7_drawn_34 : decode cX7_drawn 34 = .ok (.invokestatic 216, 3) := by decide +kernel
theorem dX7_drawn_37 : decode cX7_drawn 37 = .ok (.ifCond .ne 6, 3) := by decide +kernel
theorem dX7_drawn_40 : decode cX7_drawn 40 = .ok (.ldc 73, 2) := by decide +kernel
theorem dX7_drawn_42 : decode cX7_drawn 42 = .ok (.ireturn, 1) := by decide +kernel
theorem dX7_drawn_43 : decode cX7_drawn 43 = .ok (.aload_n 0, 1) := by decide +kernel
theorem dX7_drawn_44 : decode cX7_drawn 44 = .ok (.getfield 45, 3) := by decide +kernel
theorem dX7_drawn_47 : decode cX7_drawn 47 = .ok (.iload_n 1, 1) := by decide +kernel
theorem dX7_drawn_48 : decode cX7_drawn 48 = .ok (.iload_n 2, 1) := by decide +kernel
theorem dX7_drawn_49 : decode cX7_drawn 49 = .ok (.iload_n 3, 1) := by decide +kernel
theorem dX7_drawn_50 : decode cX7_drawn 50 = .ok (.invokevirtual 282, 3) := by decide +kernel
theorem dX7_drawn_53 : decode cX7_drawn 53 = .ok (.ireturn, 1) := by decide +kernel
theorem dX7_image_0 : decode cX7_image 0 = .ok (.iload_n 1, 1) := by decide +kernel
theorem dX7_image_1 : decode cX7_image 1 = .ok (.iconst 2, 1) := by decide +kernel
theorem dX7_image_2 : decode cX7_image 2 = .ok (.invokestatic 216, 3) := by decide +kernel
theorem dX7_image_5 : decode cX7_image 5 = .ok (.ifCond .ne 6, 3) := by decide +kernel
theorem dX7_image_8 : decode cX7_image 8 = .ok (.ldc 73, 2) := by decide +kernel
theorem dX7_image_10 : decode cX7_image 10 = .ok (.ireturn, 1) := by decide +kernel
theorem dX7_image_11 : decode cX7_image 11 = .ok (.aload_n 0, 1) := by decide +kernel
theorem dX7_image_12 : decode cX7_image 12 = .ok (.invokevirtual 149, 3) := by decide +kernel
theorem dX7_image_15 : decode cX7_image 15 = .ok (.ifCond .eq 6, 3) := by decide +kernel
theorem dX7_image_18 : decode cX7_image 18 = .ok (.ldc 148, 2) := by decide +kernel
theorem dX7_image_20 : decode cX7_image 20 = .ok (.ireturn, 1) := by decide +kernel
theorem dX7_image_21 : decode cX7_image 21 = .ok (.aload_n 0, 1) := by decide +kernel
theorem dX7_image_22 : decode cX7_image 22 = .ok (.getfield 26, 3) := by decide +kernel
theorem dX7_image_25 : decode cX7_image 25 = .ok (.aload_n 0, 1) := by decide +kernel
theorem dX7_image_26 : decode cX7_image 26 = .ok (.getfield 65, 3) := by decide +kernel
theorem dX7_image_29 : decode cX7_image 29 = .ok (.iload_n 1, 1) := by decide +kernel
theorem dX7_image_30 : decode cX7_image 30 = .ok (.bipush 40, 2) := by decide +kernel
theorem dX7_image_32 : decode cX7_image 32 = .ok (.imul, 1) := by decide +kernel
theorem dX7_image_33 : decode cX7_image 33 = .ok (.invokevirtual 285, 3) := by decide +kernel
theorem dX7_image_36 : decode cX7_image 36 = .ok (.aload_n 0, 1) := by decide +kernel
theorem dX7_image_37 : decode cX7_image 37 = .ok (.dup, 1) := by decide +kernel
theorem dX7_image_38 : decode cX7_image 38 = .ok (.getfield 289, 3) := by decide +kernel
theorem dX7_image_41 : decode cX7_image 41 = .ok (.iconst 1, 1) := by decide +kernel
theorem dX7_image_42 : decode cX7_image 42 = .ok (.iload_n 1, 1) := by decide +kernel
theorem dX7_image_43 : decode cX7_image 43 = .ok (.ishl, 1) := by decide +kernel
theorem dX7_image_44 : decode cX7_image 44 = .ok (.ior, 1) := by decide +kernel
theorem dX7_image_45 : decode cX7_image 45 = .ok (.putfield 289, 3) := by decide +kernel
theorem dX7_image_48 : decode cX7_image 48 = .ok (.iconst 1, 1) := by decide +kernel
theorem dX7_image_49 : decode cX7_image 49 = .ok (.ireturn, 1) := by decide +kernel
theorem dX7_restore_0 : decode cX7_restore 0 = .ok (.iload_n 1, 1) := by decide +kernel
theorem dX7_restore_1 : decode cX7_restore 1 = .ok (.iconst 2, 1) := by decide +kernel
theorem dX7_restore_2 : decode cX7_restore 2 = .ok (.invokestatic 216, 3) := by decide +kernel
theorem dX7_restore_5 : decode cX7_restore 5 = .ok (.ifCond .ne 6, 3) := by decide +kernel
theorem dX7_restore_8 : decode cX7_restore 8 = .ok (.ldc 73, 2) := by decide +kernel
theorem dX7_restore_10 : decode cX7_restore 10 = .ok (.ireturn, 1) := by decide +kernel
theorem dX7_restore_11 : decode cX7_restore 11 = .ok (.aload_n 0, 1) := by decide +kernel
theorem dX7_restore_12 : decode cX7_restore 12 = .ok (.getfield 289, 3) := by decide +kernel
theorem dX7_restore_15 : decode cX7_restore 15 = .ok (.iload_n 1, 1) := by decide +kernel
theorem dX7_restore_16 : decode cX7_restore 16 = .ok (.ishr, 1) := by decide +kernel
theorem dX7_restore_17 : decode cX7_restore 17 = .ok (.iconst 1, 1) := by decide +kernel
theorem dX7_restore_18 : decode cX7_restore 18 = .ok (.iand, 1) := by decide +kernel
theorem dX7_restore_19 : decode cX7_restore 19 = .ok (.ifCond .ne 6, 3) := by decide +kernel
theorem dX7_restore_22 : decode cX7_restore 22 = .ok (.ldc 148, 2) := by decide +kernel
theorem dX7_restore_24 : decode cX7_restore 24 = .ok (.ireturn, 1) := by decide +kernel
theorem dX7_restore_25 : decode cX7_restore 25 = .ok (.aload_n 0, 1) := by decide +kernel
theorem dX7_restore_26 : decode cX7_restore 26 = .ok (.getfield 26, 3) := by decide +kernel
theorem dX7_restore_29 : decode cX7_restore 29 = .ok (.aload_n 0, 1) := by decide +kernel
theorem dX7_restore_30 : decode cX7_restore 30 = .ok (.getfield 65, 3) := by decide +kernel
theorem dX7_restore_33 : decode cX7_restore 33 = .ok (.iload_n 1, 1) := by decide +kernel
theorem dX7_restore_34 : decode cX7_restore 34 = .ok (.bipush 40, 2) := by decide +kernel
theorem dX7_restore_36 : decode cX7_restore 36 = .ok (.imul, 1) := by decide +kernel
theorem dX7_restore_37 : decode cX7_restore 37 = .ok (.invokevirtual 292, 3) := by decide +kernel
theorem dX7_restore_40 : decode cX7_restore 40 = .ok (.aload_n 0, 1) := by decide +kernel
theorem dX7_restore_41 : decode cX7_restore 41 = .ok (.getfield 36, 3) := by decide +kernel
theorem dX7_restore_44 : decode cX7_restore 44 = .ok (.invokevirtual 137, 3) := by decide +kernel
theorem dX7_restore_47 : decode cX7_restore 47 = .ok (.iconst 1, 1) := by decide +kernel
theorem dX7_restore_48 : decode cX7_restore 48 = .ok (.ireturn, 1) := by decide +kernel
theorem dX7_isChoice_0 : decode cX7_isChoice 0 = .ok (.iload_n 0, 1) := by decide +kernel
theorem dX7_isChoice_1 : decode cX7_isChoice 1 = .ok (.ifCond .lt 12, 3) := by decide +kernel
theorem dX7_isChoice_4 : decode cX7_isChoice 4 = .ok (.iload_n 0, 1) := by decide +kernel
theorem dX7_isChoice_5 : decode cX7_isChoice 5 = .ok (.iload_n 1, 1) := by decide +kernel
theorem dX7_isChoice_6 : decode cX7_isChoice 6 = .ok (.if_icmp .ge 7, 3) := by decide +kernel
theorem dX7_isChoice_9 : decode cX7_isChoice 9 = .ok (.iconst 1, 1) := by decide +kernel
theorem dX7_isChoice_10 : decode cX7_isChoice 10 = .ok (.goto 4, 3) := by decide +kernel
theorem dX7_isChoice_13 : decode cX7_isChoice 13 = .ok (.iconst 0, 1) := by decide +kernel
theorem dX7_isChoice_14 : decode cX7_isChoice 14 = .ok (.ireturn, 1) := by decide +kernel
theorem dX7_isTold_0 : decode cX7_isTold 0 = .ok (.aload_n 0, 1) := by decide +kernel
theorem dX7_isTold_1 : decode cX7_isTold 1 = .ok (.getfield 10, 3) := by decide +kernel
theorem dX7_isTold_4 : decode cX7_isTold 4 = .ok (.iload_n 1, 1) := by decide +kernel
theorem dX7_isTold_5 : decode cX7_isTold 5 = .ok (.invokevirtual 69, 3) := by decide +kernel
theorem dX7_isTold_8 : decode cX7_isTold 8 = .ok (.ifCond .eq 18, 3) := by decide +kernel
theorem dX7_isTold_11 : decode cX7_isTold 11 = .ok (.iload_n 2, 1) := by decide +kernel
theorem dX7_isTold_12 : decode cX7_isTold 12 = .ok (.iconst 1, 1) := by decide +kernel
theorem dX7_isTold_13 : decode cX7_isTold 13 = .ok (.if_icmp .lt 13, 3) := by decide +kernel
theorem dX7_isTold_16 : decode cX7_isTold 16 = .ok (.iload_n 2, 1) := by decide +kernel
theorem dX7_isTold_17 : decode cX7_isTold 17 = .ok (.bipush 12, 2) := by decide +kernel
theorem dX7_isTold_19 : decode cX7_isTold 19 = .ok (.if_icmp .gt 7, 3) := by decide +kernel
theorem dX7_isTold_22 : decode cX7_isTold 22 = .ok (.iconst 1, 1) := by decide +kernel
theorem dX7_isTold_23 : decode cX7_isTold 23 = .ok (.goto 4, 3) := by decide +kernel
theorem dX7_isTold_26 : decode cX7_isTold 26 = .ok (.iconst 0, 1) := by decide +kernel
theorem dX7_isTold_27 : decode cX7_isTold 27 = .ok (.ireturn, 1) := by decide +kernel
theorem dX7_findingOfItems_0 : decode cX7_findingOfItems 0 = .ok (.aload_n 0, 1) := by decide +kernel
theorem dX7_findingOfItems_1 : decode cX7_findingOfItems 1 = .ok (.getfield 10, 3) := by decide +kernel
theorem dX7_findingOfItems_4 : decode cX7_findingOfItems 4 = .ok (.iload_n 1, 1) := by decide +kernel
theorem dX7_findingOfItems_5 : decode cX7_findingOfItems 5 = .ok (.invokevirtual 85, 3) := by decide +kernel
theorem dX7_findingOfItems_8 : decode cX7_findingOfItems 8 = .ok (.ifCond .eq 5, 3) := by decide +kernel
theorem dX7_findingOfItems_11 : decode cX7_findingOfItems 11 = .ok (.iconst 1, 1) := by decide +kernel
theorem dX7_findingOfItems_12 : decode cX7_findingOfItems 12 = .ok (.ireturn, 1) := by decide +kernel
theorem dX7_findingOfItems_13 : decode cX7_findingOfItems 13 = .ok (.aload_n 0, 1) := by decide +kernel
theorem dX7_findingOfItems_14 : decode cX7_findingOfItems 14 = .ok (.getfield 10, 3) := by decide +kernel
theorem dX7_findingOfItems_17 : decode cX7_findingOfItems 17 = .ok (.iload_n 1, 1) := by decide +kernel
theorem dX7_findingOfItems_18 : decode cX7_findingOfItems 18 = .ok (.iload_n 2, 1) := by decide +kernel
theorem dX7_findingOfItems_19 : decode cX7_findingOfItems 19 = .ok (.iload_n 3, 1) := by decide +kernel
theorem dX7_findingOfItems_20 : decode cX7_findingOfItems 20 = .ok (.invokevirtual 88, 3) := by decide +kernel
theorem dX7_findingOfItems_23 : decode cX7_findingOfItems 23 = .ok (.ifCond .eq 7, 3) := by decide +kernel
theorem dX7_findingOfItems_26 : decode cX7_findingOfItems 26 = .ok (.iconst 0, 1) := by decide +kernel
theorem dX7_findingOfItems_27 : decode cX7_findingOfItems 27 = .ok (.goto 4, 3) := by decide +kernel
theorem dX7_findingOfItems_30 : decode cX7_findingOfItems 30 = .ok (.iconst 2, 1) := by decide +kernel
theorem dX7_findingOfItems_31 : decode cX7_findingOfItems 31 = .ok (.ireturn, 1) := by decide +kernel
theorem dX7_kind_0 : decode cX7_kind 0 = .ok (.aload_n 0, 1) := by decide +kernel
theorem dX7_kind_1 : decode cX7_kind 1 = .ok (.getfield 26, 3) := by decide +kernel
theorem dX7_kind_4 : decode cX7_kind 4 = .ok (.iload_n 1, 1) := by decide +kernel
theorem dX7_kind_5 : decode cX7_kind 5 = .ok (.invokevirtual 164, 3) := by decide +kernel
theorem dX7_kind_8 : decode cX7_kind 8 = .ok (.ifCond .eq 15, 3) := by decide +kernel
theorem dX7_kind_11 : decode cX7_kind 11 = .ok (.aload_n 0, 1) := by decide +kernel
theorem dX7_kind_12 : decode cX7_kind 12 = .ok (.getfield 26, 3) := by decide +kernel
theorem dX7_kind_15 : decode cX7_kind 15 = .ok (.getfield 295, 3) := by decide +kernel
theorem dX7_kind_18 : decode cX7_kind 18 = .ok (.iload_n 1, 1) := by decide +kernel
theorem dX7_kind_19 : decode cX7_kind 19 = .ok (.iaload, 1) := by decide +kernel
theorem dX7_kind_20 : decode cX7_kind 20 = .ok (.goto 5, 3) := by decide +kernel
theorem dX7_kind_23 : decode cX7_kind 23 = .ok (.ldc 73, 2) := by decide +kernel
theorem dX7_kind_25 : decode cX7_kind 25 = .ok (.ireturn, 1) := by decide +kernel
theorem dX7_as_0 : decode cX7_as 0 = .ok (.aload_n 0, 1) := by decide +kernel
theorem dX7_as_1 : decode cX7_as 1 = .ok (.getfield 26, 3) := by decide +kernel
theorem dX7_as_4 : decode cX7_as 4 = .ok (.iload_n 1, 1) := by decide +kernel
theorem dX7_as_5 : decode cX7_as 5 = .ok (.invokevirtual 164, 3) := by decide +kernel
theorem dX7_as_8 : decode cX7_as 8 = .ok (.ifCond .eq 12, 3) := by decide +kernel
theorem dX7_as_11 : decode cX7_as 11 = .ok (.iload_n 2, 1) := by decide +kernel
theorem dX7_as_12 : decode cX7_as 12 = .ok (.ifCond .lt 8, 3) := by decide +kernel
theorem dX7_as_15 : decode cX7_as 15 = .ok (.iload_n 2, 1) := by decide +kernel
theorem dX7_as_16 : decode cX7_as 16 = .ok (.iconst 5, 1) := by decide +kernel
theorem dX7_as_17 : decode cX7_as 17 = .ok (.if_icmp .le 6, 3) := by decide +kernel
theorem dX7_as_20 : decode cX7_as 20 = .ok (.ldc 73, 2) := by decide +kernel
theorem dX7_as_22 : decode cX7_as 22 = .ok (.ireturn, 1) := by decide +kernel
theorem dX7_as_23 : decode cX7_as 23 = .ok (.aload_n 0, 1) := by decide +kernel
theorem dX7_as_24 : decode cX7_as 24 = .ok (.getfield 26, 3) := by decide +kernel
theorem dX7_as_27 : decode cX7_as 27 = .ok (.getfield 295, 3) := by decide +kernel
theorem dX7_as_30 : decode cX7_as 30 = .ok (.iload_n 1, 1) := by decide +kernel
theorem dX7_as_31 : decode cX7_as 31 = .ok (.iaload, 1) := by decide +kernel
theorem dX7_as_32 : decode cX7_as 32 = .ok (.iload_n 2, 1) := by decide +kernel
theorem dX7_as_33 : decode cX7_as 33 = .ok (.invokestatic 298, 3) := by decide +kernel
theorem dX7_as_36 : decode cX7_as 36 = .ok (.ifCond .eq 11, 3) := by decide +kernel
theorem dX7_as_39 : decode cX7_as 39 = .ok (.aload_n 0, 1) := by decide +kernel
theorem dX7_as_40 : decode cX7_as 40 = .ok (.iload_n 1, 1) := by decide +kernel
theorem dX7_as_41 : decode cX7_as 41 = .ok (.invokevirtual 82, 3) := by decide +kernel
theorem dX7_as_44 : decode cX7_as 44 = .ok (.goto 8, 3) := by decide +kernel
theorem dX7_as_47 : decode cX7_as 47 = .ok (.aload_n 0, 1) := by decide +kernel
theorem dX7_as_48 : decode cX7_as 48 = .ok (.iconst 3, 1) := by decide +kernel
theorem dX7_as_49 : decode cX7_as 49 = .ok (.invokevirtual 74, 3) := by decide +kernel
theorem dX7_as_52 : decode cX7_as 52 = .ok (.ireturn, 1) := by decide +kernel
theorem dX7_ask_0 : decode cX7_ask 0 = .ok (.aload_n 0, 1) := by decide +kernel
theorem dX7_ask_1 : decode cX7_ask 1 = .ok (.getfield 26, 3) := by decide +kernel
theorem dX7_ask_4 : decode cX7_ask 4 = .ok (.iload_n 1, 1) := by decide +kernel
theorem dX7_ask_5 : decode cX7_ask 5 = .ok (.invokevirtual 164, 3) := by decide +kernel
theorem dX7_ask_8 : decode cX7_ask 8 = .ok (.ifCond .eq 11, 3) := by decide +kernel
theorem dX7_ask_11 : decode cX7_ask 11 = .ok (.iload_n 2, 1) := by decide +kernel
theorem dX7_ask_12 : decode cX7_ask 12 = .ok (.iconst 2, 1) := by decide +kernel
theorem dX7_ask_13 : decode cX7_ask 13 = .ok (.invokestatic 216, 3) := by decide +kernel
theorem dX7_ask_16 : decode cX7_ask 16 = .ok (.ifCond .ne 6, 3) := by decide +kernel
theorem dX7_ask_19 : decode cX7_ask 19 = .ok (.ldc 73, 2) := by decide +kernel
theorem dX7_ask_21 : decode cX7_ask 21 = .ok (.ireturn, 1) := by decide +kernel
theorem dX7_ask_22 : decode cX7_ask 22 = .ok (.aload_n 0, 1) := by decide +kernel
theorem dX7_ask_23 : decode cX7_ask 23 = .ok (.getfield 61, 3) := by decide +kernel
theorem dX7_ask_26 : decode cX7_ask 26 = .ok (.iload_n 1, 1) := by decide +kernel
theorem dX7_ask_27 : decode cX7_ask 27 = .ok (.iload_n 2, 1) := by decide +kernel
theorem dX7_ask_28 : decode cX7_ask 28 = .ok (.invokevirtual 301, 3) := by decide +kernel
theorem dX7_ask_31 : decode cX7_ask 31 = .ok (.ireturn, 1) := by decide +kernel
theorem dX7_trace_0 : decode cX7_trace 0 = .ok (.aload_n 0, 1) := by decide +kernel
theorem dX7_trace_1 : decode cX7_trace 1 = .ok (.getfield 61, 3) := by decide +kernel
theorem dX7_trace_4 : decode cX7_trace 4 = .ok (.iload_n 1, 1) := by decide +kernel
theorem dX7_trace_5 : decode cX7_trace 5 = .ok (.invokevirtual 304, 3) := by decide +kernel
theorem dX7_trace_8 : decode cX7_trace 8 = .ok (.ireturn, 1) := by decide +kernel
theorem dX7_count_0 : decode cX7_count 0 = .ok (.iload_n 1, 1) := by decide +kernel
theorem dX7_count_1 : decode cX7_count 1 = .ok (.tableswitch 116 0 7 #[47, 55, 63, 71, 79, 92, 100, 108], 47) := by decide +kernel
theorem dX7_count_48 : decode cX7_count 48 = .ok (.aload_n 0, 1) := by decide +kernel
theorem dX7_count_49 : decode cX7_count 49 = .ok (.getfield 10, 3) := by decide +kernel
theorem dX7_count_52 : decode cX7_count 52 = .ok (.invokevirtual 307, 3) := by decide +kernel
theorem dX7_count_55 : decode cX7_count 55 = .ok (.ireturn, 1) := by decide +kernel
theorem dX7_count_56 : decode cX7_count 56 = .ok (.aload_n 0, 1) := by decide +kernel
theorem dX7_count_57 : decode cX7_count 57 = .ok (.getfield 26, 3) := by decide +kernel
theorem dX7_count_60 : decode cX7_count 60 = .ok (.getfield 138, 3) := by decide +kernel
theorem dX7_count_63 : decode cX7_count 63 = .ok (.ireturn, 1) := by decide +kernel
theorem dX7_count_64 : decode cX7_count 64 = .ok (.aload_n 0, 1) := by decide +kernel
theorem dX7_count_65 : decode cX7_count 65 = .ok (.getfield 26, 3) := by decide +kernel
theorem dX7_count_68 : decode cX7_count 68 = .ok (.getfield 206, 3) := by decide +kernel
theorem dX7_count_71 : decode cX7_count 71 = .ok (.ireturn, 1) := by decide +kernel
theorem dX7_count_72 : decode cX7_count 72 = .ok (.aload_n 0, 1) := by decide +kernel
theorem dX7_count_73 : decode cX7_count 73 = .ok (.getfield 26, 3) := by decide +kernel
theorem dX7_count_76 : decode cX7_count 76 = .ok (.getfield 152, 3) := by decide +kernel
theorem dX7_count_79 : decode cX7_count 79 = .ok (.ireturn, 1) := by decide +kernel
theorem dX7_count_80 : decode cX7_count 80 = .ok (.aload_n 0, 1) := by decide +kernel
theorem dX7_count_81 : decode cX7_count 81 = .ok (.getfield 26, 3) := by decide +kernel
theorem dX7_count_84 : decode cX7_count 84 = .ok (.bipush 7, 2) := by decide +kernel
theorem dX7_count_86 : decode cX7_count 86 = .ok (.invokevirtual 161, 3) := by decide +kernel
theorem dX7_count_89 : decode cX7_count 89 = .ok (.invokestatic 189, 3) := by decide +kernel
theorem dX7_count_92 : decode cX7_count 92 = .ok (.ireturn, 1) := by decide +kernel
theorem dX7_count_93 : decode cX7_count 93 = .ok (.aload_n 0, 1) := by decide +kernel
theorem dX7_count_94 : decode cX7_count 94 = .ok (.getfield 26, 3) := by decide +kernel
theorem dX7_count_97 : decode cX7_count 97 = .ok (.invokevirtual 310, 3) := by decide +kernel
theorem dX7_count_100 : decode cX7_count 100 = .ok (.ireturn, 1) := by decide +kernel
theorem dX7_count_101 : decode cX7_count 101 = .ok (.aload_n 0, 1) := by decide +kernel
theorem dX7_count_102 : decode cX7_count 102 = .ok (.getfield 36, 3) := by decide +kernel
theorem dX7_count_105 : decode cX7_count 105 = .ok (.invokevirtual 145, 3) := by decide +kernel
theorem dX7_count_108 : decode cX7_count 108 = .ok (.ireturn, 1) := by decide +kernel
theorem dX7_count_109 : decode cX7_count 109 = .ok (.aload_n 0, 1) := by decide +kernel
theorem dX7_count_110 : decode cX7_count 110 = .ok (.getfield 19, 3) := by decide +kernel
theorem dX7_count_113 : decode cX7_count 113 = .ok (.invokevirtual 313, 3) := by decide +kernel
theorem dX7_count_116 : decode cX7_count 116 = .ok (.ireturn, 1) := by decide +kernel
theorem dX7_count_117 : decode cX7_count 117 = .ok (.ldc 73, 2) := by decide +kernel
theorem dX7_count_119 : decode cX7_count 119 = .ok (.ireturn, 1) := by decide +kernel
theorem dX7_status_0 : decode cX7_status 0 = .ok (.aload_n 0, 1) := by decide +kernel
theorem dX7_status_1 : decode cX7_status 1 = .ok (.getfield 106, 3) := by decide +kernel
theorem dX7_status_4 : decode cX7_status 4 = .ok (.ireturn, 1) := by decide +kernel
