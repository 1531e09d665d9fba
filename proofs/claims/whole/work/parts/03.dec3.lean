theorem dX8_init_0 : decode cX8_init 0 = .ok (.aload_n 0, 1) := by decide +kernel
theorem dX8_init_1 : decode cX8_init 1 = .ok (.invokespecial 1, 3) := by decide +kernel
theorem dX8_init_4 : decode cX8_init 4 = .ok (.aload_n 0, 1) := by decide +kernel
theorem dX8_init_5 : decode cX8_init 5 = .ok (.sipush 1092, 3) := by decide +kernel
theorem dX8_init_8 : decode cX8_init 8 = .ok (.newarray .int, 2) := by decide +kernel
theorem dX8_init_10 : decode cX8_init 10 = .ok (.putfield 7, 3) := by decide +kernel
theorem dX8_init_13 : decode cX8_init 13 = .ok (.aload_n 0, 1) := by decide +kernel
theorem dX8_init_14 : decode cX8_init 14 = .ok (.iconst 2, 1) := by decide +kernel
theorem dX8_init_15 : decode cX8_init 15 = .ok (.newarray .boolean, 2) := by decide +kernel
theorem dX8_init_17 : decode cX8_init 17 = .ok (.putfield 13, 3) := by decide +kernel
theorem dX8_init_20 : decode cX8_init 20 = .ok (.aload_n 0, 1) := by decide +kernel
theorem dX8_init_21 : decode cX8_init 21 = .ok (.bipush 8, 2) := by decide +kernel
theorem dX8_init_23 : decode cX8_init 23 = .ok (.newarray .int, 2) := by decide +kernel
theorem dX8_init_25 : decode cX8_init 25 = .ok (.putfield 17, 3) := by decide +kernel
theorem dX8_init_28 : decode cX8_init 28 = .ok (.aload_n 0, 1) := by decide +kernel
theorem dX8_init_29 : decode cX8_init 29 = .ok (.bipush 8, 2) := by decide +kernel
theorem dX8_init_31 : decode cX8_init 31 = .ok (.newarray .int, 2) := by decide +kernel
theorem dX8_init_33 : decode cX8_init 33 = .ok (.dup, 1) := by decide +kernel
theorem dX8_init_34 : decode cX8_init 34 = .ok (.iconst 0, 1) := by decide +kernel
theorem dX8_init_35 : decode cX8_init 35 = .ok (.iconst (-1), 1) := by decide +kernel
theorem dX8_init_36 : decode cX8_init 36 = .ok (.iastore, 1) := by decide +kernel
theorem dX8_init_37 : decode cX8_init 37 = .ok (.dup, 1) := by decide +kernel
theorem dX8_init_38 : decode cX8_init 38 = .ok (.iconst 1, 1) := by decide +kernel
theorem dX8_init_39 : decode cX8_init 39 = .ok (.iconst (-1), 1) := by decide +kernel
theorem dX8_init_40 : decode cX8_init 40 = .ok (.iastore, 1) := by decide +kernel
theorem dX8_init_41 : decode cX8_init 41 = .ok (.dup, 1) := by decide +kernel
theorem dX8_init_42 : decode cX8_init 42 = .ok (.iconst 2, 1) := by decide +kernel
theorem dX8_init_43 : decode cX8_init 43 = .ok (.iconst (-1), 1) := by decide +kernel
theorem dX8_init_44 : decode cX8_init 44 = .ok (.iastore, 1) := by decide +kernel
theorem dX8_init_45 : decode cX8_init 45 = .ok (.dup, 1) := by decide +kernel
theorem dX8_init_46 : decode cX8_init 46 = .ok (.iconst 3, 1) := by decide +kernel
theorem dX8_init_47 : decode cX8_init 47 = .ok (.iconst (-1), 1) := by decide +kernel
theorem dX8_init_48 : decode cX8_init 48 = .ok (.iastore, 1) := by decide +kernel
theorem dX8_init_49 : decode cX8_init 49 = .ok (.dup, 1) := by decide +kernel
theorem dX8_init_50 : decode cX8_init 50 = .ok (.iconst 4, 1) := by decide +kernel
theorem dX8_init_51 : decode cX8_init 51 = .ok (.iconst (-1), 1) := by decide +kernel
theorem dX8_init_52 : decode cX8_init 52 = .ok (.iastore, 1) := by decide +kernel
theorem dX8_init_53 : decode cX8_init 53 = .ok (.dup, 1) := by decide +kernel
theorem dX8_init_54 : decode cX8_init 54 = .ok (.iconst 5, 1) := by decide +kernel
theorem dX8_init_55 : decode cX8_init 55 = .ok (.iconst (-1), 1) := by decide +kernel
theorem dX8_init_56 : decode cX8_init 56 = .ok (.iastore, 1) := by decide +kernel
theorem dX8_init_57 : decode cX8_init 57 = .ok (.dup, 1) := by decide +kernel
theorem dX8_init_58 : decode cX8_init 58 = .ok (.bipush 6, 2) := by decide +kernel
theorem dX8_init_60 : decode cX8_init 60 = .ok (.iconst (-1), 1) := by decide +kernel
theorem dX8_init_61 : decode cX8_init 61 = .ok (.iastore, 1) := by decide +kernel
theorem dX8_init_62 : decode cX8_init 62 = .ok (.dup, 1) := by decide +kernel
theorem dX8_init_63 : decode cX8_init 63 = .ok (.bipush 7, 2) := by decide +kernel
theorem dX8_init_65 : decode cX8_init 65 = .ok (.iconst (-1), 1) := by decide +kernel
theorem dX8_init_66 : decode cX8_init 66 = .ok (.iastore, 1) := by decide +kernel
theorem dX8_init_67 : decode cX8_init 67 = .ok (.putfield 20, 3) := by decide +kernel
theorem dX8_init_70 : decode cX8_init 70 = .ok (.aload_n 0, 1) := by decide +kernel
theorem dX8_init_71 : decode cX8_init 71 = .ok (.sipush 320, 3) := by decide +kernel
theorem dX8_init_74 : decode cX8_init 74 = .ok (.newarray .int, 2) := by decide +kernel
theorem dX8_init_76 : decode cX8_init 76 = .ok (.putfield 23, 3) := by decide +kernel
theorem dX8_init_79 : decode cX8_init 79 = .ok (.aload_n 0, 1) := by decide +kernel
theorem dX8_init_80 : decode cX8_init 80 = .ok (.bipush 110, 2) := by decide +kernel
theorem dX8_init_82 : decode cX8_init 82 = .ok (.newarray .int, 2) := by decide +kernel
theorem dX8_init_84 : decode cX8_init 84 = .ok (.putfield 26, 3) := by decide +kernel
theorem dX8_init_87 : decode cX8_init 87 = .ok (.aload_n 0, 1) := by decide +kernel
theorem dX8_init_88 : decode cX8_init 88 = .ok (.bipush 16, 2) := by decide +kernel
theorem dX8_init_90 : decode cX8_init 90 = .ok (.newarray .int, 2) := by decide +kernel
theorem dX8_init_92 : decode cX8_init 92 = .ok (.putfield 29, 3) := by decide +kernel
theorem dX8_init_95 : decode cX8_init 95 = .ok (.aload_n 0, 1) := by decide +kernel
theorem dX8_init_96 : decode cX8_init 96 = .ok (.bipush 6, 2) := by decide +kernel
theorem dX8_init_98 : decode cX8_init 98 = .ok (.newarray .int, 2) := by decide +kernel
theorem dX8_init_100 : decode cX8_init 100 = .ok (.dup, 1) := by decide +kernel
theorem dX8_init_101 : decode cX8_init 101 = .ok (.iconst 0, 1) := by decide +kernel
theorem dX8_init_102 : decode cX8_init 102 = .ok (.iconst 0, 1) := by decide +kernel
theorem dX8_init_103 : decode cX8_init 103 = .ok (.iastore, 1) := by decide +kernel
theorem dX8_init_104 : decode cX8_init 104 = .ok (.dup, 1) := by decide +kernel
theorem dX8_init_105 : decode cX8_init 105 = .ok (.iconst 1, 1) := by decide +kernel
theorem dX8_init_106 : decode cX8_init 106 = .ok (.iconst 1, 1) := by decide +kernel
theorem dX8_init_107 : decode cX8_init 107 = .ok (.iastore, 1) := by decide +kernel
theorem dX8_init_108 : decode cX8_init 108 = .ok (.dup, 1) := by decide +kernel
theorem dX8_init_109 : decode cX8_init 109 = .ok (.iconst 2, 1) := by decide +kernel
theorem dX8_init_110 : decode cX8_init 110 = .ok (.iconst 2, 1) := by decide +kernel
theorem dX8_init_111 : decode cX8_init 111 = .ok (.iastore, 1) := by decide +kernel
theorem dX8_init_112 : decode cX8_init 112 = .ok (.dup, 1) := by decide +kernel
theorem dX8_init_113 : decode cX8_init 113 = .ok (.iconst 3, 1) := by decide +kernel
theorem dX8_init_114 : decode cX8_init 114 = .ok (.iconst 3, 1) := by decide +kernel
theorem dX8_init_115 : decode cX8_init 115 = .ok (.iastore, 1) := by decide +kernel
theorem dX8_init_116 : decode cX8_init 116 = .ok (.dup, 1) := by decide +kernel
theorem dX8_init_117 : decode cX8_init 117 = .ok (.iconst 4, 1) := by decide +kernel
theorem dX8_init_118 : decode cX8_init 118 = .ok (.iconst 4, 1) := by decide +kernel
theorem dX8_init_119 : decode cX8_init 119 = .ok (.iastore, 1) := by decide +kernel
theorem dX8_init_120 : decode cX8_init 120 = .ok (.dup, 1) := by decide +kernel
theorem dX8_init_121 : decode cX8_init 121 = .ok (.iconst 5, 1) := by decide +kernel
theorem dX8_init_122 : decode cX8_init 122 = .ok (.iconst 5, 1) := by decide +kernel
theorem dX8_init_123 : decode cX8_init 123 = .ok (.iastore, 1) := by decide +kernel
theorem dX8_init_124 : decode cX8_init 124 = .ok (.putfield 32, 3) := by decide +kernel
theorem dX8_init_127 : decode cX8_init 127 = .ok (.aload_n 0, 1) := by decide +kernel
theorem dX8_init_128 : decode cX8_init 128 = .ok (.bipush 6, 2) := by decide +kernel
theorem dX8_init_130 : decode cX8_init 130 = .ok (.newarray .int, 2) := by decide +kernel
theorem dX8_init_132 : decode cX8_init 132 = .ok (.putfield 35, 3) := by decide +kernel
theorem dX8_init_135 : decode cX8_init 135 = .ok (.aload_n 0, 1) := by decide +kernel
theorem dX8_init_136 : decode cX8_init 136 = .ok (.bipush 16, 2) := by decide +kernel
theorem dX8_init_138 : decode cX8_init 138 = .ok (.newarray .int, 2) := by decide +kernel
theorem dX8_init_140 : decode cX8_init 140 = .ok (.putfield 38, 3) := by decide +kernel
theorem dX8_init_143 : decode cX8_init 143 = .ok (.return_, 1) := by decide +kernel
theorem dX8_in_0 : decode cX8_in 0 = .ok (.lload_n 0, 1) := by decide +kernel
theorem dX8_in_1 : decode cX8_in 1 = .ok (.lload_n 2, 1) := by decide +kernel
theorem dX8_in_2 : decode cX8_in 2 = .ok (.lcmp, 1) := by decide +kernel
theorem dX8_in_3 : decode cX8_in 3 = .ok (.ifCond .lt 14, 3) := by decide +kernel
theorem dX8_in_6 : decode cX8_in 6 = .ok (.lload_n 0, 1) := by decide +kernel
theorem dX8_in_7 : decode cX8_in 7 = .ok (.lload 4, 2) := by decide +kernel
theorem dX8_in_9 : decode cX8_in 9 = .ok (.lcmp, 1) := by decide +kernel
theorem dX8_in_10 : decode cX8_in 10 = .ok (.ifCond .gt 7, 3) := by decide +kernel
theorem dX8_in_13 : decode cX8_in 13 = .ok (.iconst 1, 1) := by decide +kernel
theorem dX8_in_14 : decode cX8_in 14 = .ok (.goto 4, 3) := by decide +kernel
theorem dX8_in_17 : decode cX8_in 17 = .ok (.iconst 0, 1) := by decide +kernel
theorem dX8_in_18 : decode cX8_in 18 = .ok (.ireturn, 1) := by decide +kernel
theorem dX8_has_0 : decode cX8_has 0 = .ok (.iload_n 0, 1) := by decide +kernel
theorem dX8_has_1 : decode cX8_has 1 = .ok (.iload_n 1, 1) := by decide +kernel
theorem dX8_has_2 : decode cX8_has 2 = .ok (.ishr, 1) := by decide +kernel
theorem dX8_has_3 : decode cX8_has 3 = .ok (.iconst 1, 1) := by decide +kernel
theorem dX8_has_4 : decode cX8_has 4 = .ok (.iand, 1) := by decide +kernel
theorem dX8_has_5 : decode cX8_has 5 = .ok (.iconst 1, 1) := by decide +kernel
theorem dX8_has_6 : decode cX8_has 6 = .ok (.if_icmp .ne 7, 3) := by decide +kernel
theorem dX8_has_9 : decode cX8_has 9 = .ok (.iconst 1, 1) := by decide +kernel
theorem dX8_has_10 : decode cX8_has 10 = .ok (.goto 4, 3) := by decide +kernel
theorem dX8_has_13 : decode cX8_has 13 = .ok (.iconst 0, 1) := by decide +kernel
theorem dX8_has_14 : decode cX8_has 14 = .ok (.ireturn, 1) := by decide +kernel
theorem dX8_bits_0 : decode cX8_bits 0 = .ok (.iconst 0, 1) := by decide +kernel
theorem dX8_bits_1 : decode cX8_bits 1 = .ok (.istore_n 1, 1) := by decide +kernel
theorem dX8_bits_2 : decode cX8_bits 2 = .ok (.iconst 0, 1) := by decide +kernel
theorem dX8_bits_3 : decode cX8_bits 3 = .ok (.istore_n 2, 1) := by decide +kernel
theorem dX8_bits_4 : decode cX8_bits 4 = .ok (.iload_n 2, 1) := by decide +kernel
theorem dX8_bits_5 : decode cX8_bits 5 = .ok (.bipush 6, 2) := by decide +kernel
theorem dX8_bits_7 : decode cX8_bits 7 = .ok (.if_icmp .ge 17, 3) := by decide +kernel
theorem dX8_bits_10 : decode cX8_bits 10 = .ok (.iload_n 1, 1) := by decide +kernel
theorem dX8_bits_11 : decode cX8_bits 11 = .ok (.iload_n 0, 1) := by decide +kernel
theorem dX8_bits_12 : decode cX8_bits 12 = .ok (.iload_n 2, 1) := by decide +kernel
theorem dX8_bits_13 : decode cX8_bits 13 = .ok (.ishr, 1) := by decide +kernel
theorem dX8_bits_14 : decode cX8_bits 14 = .ok (.iconst 1, 1) := by decide +kernel
theorem dX8_bits_15 : decode cX8_bits 15 = .ok (.iand, 1) := by decide +kernel
theorem dX8_bits_16 : decode cX8_bits 16 = .ok (.iadd, 1) := by decide +kernel
theorem dX8_bits_17 : decode cX8_bits 17 = .ok (.istore_n 1, 1) := by decide +kernel
theorem dX8_bits_18 : decode cX8_bits 18 = .ok (.iinc 2 1, 3) := by decide +kernel
theorem dX8_bits_21 : decode cX8_bits 21 = .ok (.goto (-17), 3) := by decide +kernel
theorem dX8_bits_24 : decode cX8_bits 24 = .ok (.iload_n 1, 1) := by decide +kernel
theorem dX8_bits_25 : decode cX8_bits 25 = .ok (.ireturn, 1) := by decide +kernel
theorem dX8_find_0 : decode cX8_find 0 = .ok (.aload_n 0, 1) := by decide +kernel
theorem dX8_find_1 : decode cX8_find 1 = .ok (.iload_n 1, 1) := by decide +kernel
theorem dX8_find_2 : decode cX8_find 2 = .ok (.putfield 41, 3) := by decide +kernel
theorem dX8_find_5 : decode cX8_find 5 = .ok (.ldc 45, 2) := by decide +kernel
theorem dX8_find_7 : decode cX8_find 7 = .ok (.iload_n 1, 1) := by decide +kernel
theorem dX8_find_8 : decode cX8_find 8 = .ok (.isub, 1) := by decide +kernel
theorem dX8_find_9 : decode cX8_find 9 = .ok (.ireturn, 1) := by decide +kernel
theorem dX8_well_0 : decode cX8_well 0 = .ok (.aload_n 0, 1) := by decide +kernel
theorem dX8_well_1 : decode cX8_well 1 = .ok (.iconst 0, 1) := by decide +kernel
theorem dX8_well_2 : decode cX8_well 2 = .ok (.putfield 41, 3) := by decide +kernel
theorem dX8_well_5 : decode cX8_well 5 = .ok (.iload_n 1, 1) := by decide +kernel
theorem dX8_well_6 : decode cX8_well 6 = .ok (.ireturn, 1) := by decide +kernel
theorem dX8_isRow_0 : decode cX8_isRow 0 = .ok (.iload_n 0, 1) := by decide +kernel
theorem dX8_isRow_1 : decode cX8_isRow 1 = .ok (.i2l, 1) := by decide +kernel
theorem dX8_isRow_2 : decode cX8_isRow 2 = .ok (.lconst 0, 1) := by decide +kernel
theorem dX8_isRow_3 : decode cX8_isRow 3 = .ok (.ldc2_w 46, 3) := by decide +kernel
theorem dX8_isRow_6 : decode cX8_isRow 6 = .ok (.invokestatic 48, 3) := by decide +kernel
theorem dX8_isRow_9 : decode cX8_isRow 9 = .ok (.ireturn, 1) := by decide +kernel
theorem dX8_row_0 : decode cX8_row 0 = .ok (.iload_n 1, 1) := by decide +kernel
theorem dX8_row_1 : decode cX8_row 1 = .ok (.invokestatic 52, 3) := by decide +kernel
theorem dX8_row_4 : decode cX8_row 4 = .ok (.ifCond .eq 21, 3) := by decide +kernel
theorem dX8_row_7 : decode cX8_row 7 = .ok (.iload_n 2, 1) := by decide +kernel
theorem dX8_row_8 : decode cX8_row 8 = .ok (.i2l, 1) := by decide +kernel
theorem dX8_row_9 : decode cX8_row 9 = .ok (.lconst 0, 1) := by decide +kernel
theorem dX8_row_10 : decode cX8_row 10 = .ok (.ldc2_w 56, 3) := by decide +kernel
theorem dX8_row_13 : decode cX8_row 13 = .ok (.invokestatic 48, 3) := by decide +kernel
theorem dX8_row_16 : decode cX8_row 16 = .ok (.ifCond .eq 9, 3) := by decide +kernel
theorem dX8_row_19 : decode cX8_row 19 = .ok (.iload_n 3, 1) := by decide +kernel
theorem dX8_row_20 : decode cX8_row 20 = .ok (.bipush 40, 2) := by decide +kernel
theorem dX8_row_22 : decode cX8_row 22 = .ok (.if_icmp .le 6, 3) := by decide +kernel
theorem dX8_row_25 : decode cX8_row 25 = .ok (.ldc 58, 2) := by decide +kernel
theorem dX8_row_27 : decode cX8_row 27 = .ok (.ireturn, 1) := by decide +kernel
theorem dX8_row_28 : decode cX8_row 28 = .ok (.iload_n 3, 1) := by decide +kernel
theorem dX8_row_29 : decode cX8_row 29 = .ok (.ifCond .ge 9, 3) := by decide +kernel
theorem dX8_row_32 : decode cX8_row 32 = .ok (.aload_n 0, 1) := by decide +kernel
theorem dX8_row_33 : decode cX8_row 33 = .ok (.iconst 4, 1) := by decide +kernel
theorem dX8_row_34 : decode cX8_row 34 = .ok (.invokevirtual 59, 3) := by decide +kernel
theorem dX8_row_37 : decode cX8_row 37 = .ok (.ireturn, 1) := by decide +kernel
theorem dX8_row_38 : decode cX8_row 38 = .ok (.aload_n 0, 1) := by decide +kernel
theorem dX8_row_39 : decode cX8_row 39 = .ok (.getfield 17, 3) := by decide +kernel
theorem dX8_row_42 : decode cX8_row 42 = .ok (.iload_n 1, 1) := by decide +kernel
theorem dX8_row_43 : decode cX8_row 43 = .ok (.iload_n 2, 1) := by decide +kernel
theorem dX8_row_44 : decode cX8_row 44 = .ok (.iastore, 1) := by decide +kernel
theorem dX8_row_45 : decode cX8_row 45 = .ok (.aload_n 0, 1) := by decide +kernel
theorem dX8_row_46 : decode cX8_row 46 = .ok (.getfield 20, 3) := by decide +kernel
theorem dX8_row_49 : decode cX8_row 49 = .ok (.iload_n 1, 1) := by decide +kernel
theorem dX8_row_50 : decode cX8_row 50 = .ok (.iload_n 3, 1) := by decide +kernel
theorem dX8_row_51 : decode cX8_row 51 = .ok (.iastore, 1) := by decide +kernel
theorem dX8_row_52 : decode cX8_row 52 = .ok (.iconst 0, 1) := by decide +kernel
theorem dX8_row_53 : decode cX8_row 53 = .ok (.istore 4, 2) := by decide +kernel
theorem dX8_row_55 : decode cX8_row 55 = .ok (.iload 4, 2) := by decide +kernel
theorem dX8_row_57 : decode cX8_row 57 = .ok (.bipush 40, 2) := by decide +kernel
theorem dX8_row_59 : decode cX8_row 59 = .ok (.if_icmp .ge 22, 3) := by decide +kernel
theorem dX8_row_62 : decode cX8_row 62 = .ok (.aload_n 0, 1) := by decide +kernel
theorem dX8_row_63 : decode cX8_row 63 = .ok (.getfield 23, 3) := by decide +kernel
theorem dX8_row_66 : decode cX8_row 66 = .ok (.bipush 40, 2) := by decide +kernel
theorem dX8_row_68 : decode cX8_row 68 = .ok (.iload_n 1, 1) := by decide +kernel
theorem dX8_row_69 : decode cX8_row 69 = .ok (.imul, 1) := by decide +kernel
theorem dX8_row_70 : decode cX8_row 70 = .ok (.iload 4, 2) := by decide +kernel
theorem dX8_row_72 : decode cX8_row 72 = .ok (.iadd, 1) := by decide +kernel
theorem dX8_row_73 : decode cX8_row 73 = .ok (.iconst 0, 1) := by decide +kernel
theorem dX8_row_74 : decode cX8_row 74 = .ok (.iastore, 1) := by decide +kernel
theorem dX8_row_75 : decode cX8_row 75 = .ok (.iinc 4 1, 3) := by decide +kernel
theorem dX8_row_78 : decode cX8_row 78 = .ok (.goto (-23), 3) := by decide +kernel
theorem dX8_row_81 : decode cX8_row 81 = .ok (.aload_n 0, 1) := by decide +kernel
theorem dX8_row_82 : decode cX8_row 82 = .ok (.iload_n 3, 1) := by decide +kernel
theorem dX8_row_83 : decode cX8_row 83 = .ok (.invokevirtual 63, 3) := by decide +kernel
theorem dX8_row_86 : decode cX8_row 86 = .ok (.ireturn, 1) := by decide +kernel
theorem dX8_narrow_0 : decode cX8_narrow 0 = .ok (.iload_n 1, 1) := by decide +kernel
theorem dX8_narrow_1 : decode cX8_narrow 1 = .ok (.ifCond .ne 8, 3) := by decide +kernel
theorem dX8_narrow_4 : decode cX8_narrow 4 = .ok (.iload_n 0, 1) := by decide +kernel
theorem dX8_narrow_5 : decode cX8_narrow 5 = .ok (.i2b, 1) := by decide +kernel
theorem dX8_narrow_6 : decode cX8_narrow 6 = .ok (.goto 14, 3) := by decide +kernel
theorem dX8_narrow_9 : decode cX8_narrow 9 = .ok (.iload_n 1, 1) := by decide +kernel
theorem dX8_narrow_10 : decode cX8_narrow 10 = .ok (.iconst 1, 1) := by decide +kernel
theorem dX8_narrow_11 : decode cX8_narrow 11 = .ok (.if_icmp .ne 8, 3) := by decide +kernel
theorem dX8_narrow_14 : decode cX8_narrow 14 = .ok (.iload_n 0, 1) := by decide +kernel
theorem dX8_narrow_15 : decode cX8_narrow 15 = .ok (.i2s, 1) := by decide +kernel
theorem dX8_narrow_16 : decode cX8_narrow 16 = .ok (.goto 4, 3) := by decide +kernel
theorem dX8_narrow_19 : decode cX8_narrow 19 = .ok (.iload_n 0, 1) := by decide +kernel
theorem dX8_narrow_20 : decode cX8_narrow 20 = .ok (.ireturn, 1) := by decide +kernel
theorem dX8_set_0 : decode cX8_set 0 = .ok (.iload_n 1, 1) := by decide +kernel
theorem dX8_set_1 : decode cX8_set 1 = .ok (.invokestatic 52, 3) := by decide +kernel
theorem dX8_set_4 : decode cX8_set 4 = .ok (.ifCond .ne 6, 3) := by decide +kernel
theorem dX8_set_7 : decode cX8_set 7 = .ok (.ldc 58, 2) := by decide +kernel
theorem dX8_set_9 : decode cX8_set 9 = .ok (.ireturn, 1) := by decide +kernel
theorem dX8_set_10 : decode cX8_set 10 = .ok (.aload_n 0, 1) := by decide +kernel
theorem dX8_set_11 : decode cX8_set 11 = .ok (.getfield 20, 3) := by decide +kernel
theorem dX8_set_14 : decode cX8_set 14 = .ok (.iload_n 1, 1) := by decide +kernel
theorem dX8_set_15 : decode cX8_set 15 = .ok (.iaload, 1) := by decide +kernel
theorem dX8_set_16 : decode cX8_set 16 = .ok (.ifCond .ge 9, 3) := by decide +kernel
theorem dX8_set_19 : decode cX8_set 19 = .ok (.aload_n 0, 1) := by decide +kernel
theorem dX8_set_20 : decode cX8_set 20 = .ok (.iconst 1, 1) := by decide +kernel
theorem dX8_set_21 : decode cX8_set 21 = .ok (.invokevirtual 59, 3) := by decide +kernel
theorem dX8_set_24 : decode cX8_set 24 = .ok (.ireturn, 1) := by decide +kernel
theorem dX8_set_25 : decode cX8_set 25 = .ok (.iload_n 2, 1) := by decide +kernel
theorem dX8_set_26 : decode cX8_set 26 = .ok (.i2l, 1) := by decide +kernel
theorem dX8_set_27 : decode cX8_set 27 = .ok (.lconst 0, 1) := by decide +kernel
theorem dX8_set_28 : decode cX8_set 28 = .ok (.aload_n 0, 1) := by decide +kernel
theorem dX8_set_29 : decode cX8_set 29 = .ok (.getfield 20, 3) := by decide +kernel
theorem dX8_set_32 : decode cX8_set 32 = .ok (.iload_n 1, 1) := by decide +kernel
theorem dX8_set_33 : decode cX8_set 33 = .ok (.iaload, 1) := by decide +kernel
theorem dX8_set_34 : decode cX8_set 34 = .ok (.iconst 1, 1) := by decide +kernel
theorem dX8_set_35 : decode cX8_set 35 = .ok (.isub, 1) := by decide +kernel
theorem dX8_set_36 : decode cX8_set 36 = .ok (.i2l, 1) := by decide +kernel
theorem dX8_set_37 : decode cX8_set 37 = .ok (.invokestatic 48, 3) := by decide +kernel
theorem dX8_set_40 : decode cX8_set 40 = .ok (.ifCond .ne 9, 3) := by decide +kernel
theorem dX8_set_43 : decode cX8_set 43 = .ok (.aload_n 0, 1) := by decide +kernel
theorem dX8_set_44 : decode cX8_set 44 = .ok (.iconst 2, 1) := by decide +kernel
theorem dX8_set_45 : decode cX8_set 45 = .ok (.invokevirtual 59, 3) := by decide +kernel
theorem dX8_set_48 : decode cX8_set 48 = .ok (.ireturn, 1) := by decide +kernel
theorem dX8_set_49 : decode cX8_set 49 = .ok (.aload_n 0, 1) := by decide +kernel
theorem dX8_set_50 : decode cX8_set 50 = .ok (.getfield 23, 3) := by decide +kernel
theorem dX8_set_53 : decode cX8_set 53 = .ok (.bipush 40, 2) := by decide +kernel
theorem dX8_set_55 : decode cX8_set 55 = .ok (.iload_n 1, 1) := by decide +kernel
theorem dX8_set_56 : decode cX8_set 56 = .ok (.imul, 1) := by decide +kernel
theorem dX8_set_57 : decode cX8_set 57 = .ok (.iload_n 2, 1) := by decide +kernel
theorem dX8_set_58 : decode cX8_set 58 = .ok (.iadd, 1) := by decide +kernel
theorem dX8_set_59 : decode cX8_set 59 = .ok (.iload_n 3, 1) := by decide +kernel
theorem dX8_set_60 : decode cX8_set 60 = .ok (.aload_n 0, 1) := by decide +kernel
theorem dX8_set_61 : decode cX8_set 61 = .ok (.getfield 17, 3) := by decide +kernel
theorem dX8_set_64 : decode cX8_set 64 = .ok (.iload_n 1, 1) := by decide +kernel
theorem dX8_set_65 : decode cX8_set 65 = .ok (.iaload, 1) := by decide +kernel
theorem dX8_set_66 : decode cX8_set 66 = .ok (.invokestatic 66, 3) := by decide +kernel
theorem dX8_set_69 : decode cX8_set 69 = .ok (.iastore, 1) := by decide +kernel
theorem dX8_set_70 : decode cX8_set 70 = .ok (.aload_n 0, 1) := by decide +kernel
theorem dX8_set_71 : decode cX8_set 71 = .ok (.aload_n 0, 1) := by decide +kernel
theorem dX8_set_72 : decode cX8_set 72 = .ok (.getfield 23, 3) := by decide +kernel
theorem dX8_set_75 : decode cX8_set 75 = .ok (.bipush 40, 2) := by decide +kernel
theorem dX8_set_77 : decode cX8_set 77 = .ok (.iload_n 1, 1) := by decide +kernel
theorem dX8_set_78 : decode cX8_set 78 = .ok (.imul, 1) := by decide +kernel
theorem dX8_set_79 : decode cX8_set 79 = .ok (.iload_n 2, 1) := by decide +kernel
theorem dX8_set_80 : decode cX8_set 80 = .ok (.iadd, 1) := by decide +kernel
theorem dX8_set_81 : decode cX8_set 81 = .ok (.iaload, 1) := by decide +kernel
theorem dX8_set_82 : decode cX8_set 82 = .ok (.invokevirtual 63, 3) := by decide +kernel
theorem dX8_set_85 : decode cX8_set 85 = .ok (.ireturn, 1) := by decide +kernel
theorem dX8_isSpan_0 : decode cX8_isSpan 0 = .ok (.iload_n 2, 1) := by decide +kernel
theorem dX8_isSpan_1 : decode cX8_isSpan 1 = .ok (.ifCond .lt 27, 3) := by decide +kernel
theorem dX8_isSpan_4 : decode cX8_isSpan 4 = .ok (.iload_n 3, 1) := by decide +kernel
theorem dX8_isSpan_5 : decode cX8_isSpan 5 = .ok (.ifCond .lt 23, 3) := by decide +kernel
theorem dX8_isSpan_8 : decode cX8_isSpan 8 = .ok (.iload_n 2, 1) := by decide +kernel
theorem dX8_isSpan_9 : decode cX8_isSpan 9 = .ok (.i2l, 1) := by decide +kernel
theorem dX8_isSpan_10 : decode cX8_isSpan 10 = .ok (.iload_n 3, 1) := by decide +kernel
theorem dX8_isSpan_11 : decode cX8_isSpan 11 = .ok (.i2l, 1) := by decide +kernel
theorem dX8_isSpan_12 : decode cX8_isSpan 12 = .ok (.ladd, 1) := by decide +kernel
theorem dX8_isSpan_13 : decode cX8_isSpan 13 = .ok (.aload_n 0, 1) := by decide +kernel
theorem dX8_isSpan_14 : decode cX8_isSpan 14 = .ok (.getfield 20, 3) := by decide +kernel
theorem dX8_isSpan_17 : decode cX8_isSpan 17 = .ok (.iload_n 1, 1) := by decide +kernel
theorem dX8_isSpan_18 : decode cX8_isSpan 18 = .ok (.iaload, 1) := by decide +kernel
theorem dX8_isSpan_19 : decode cX8_isSpan 19 = .ok (.i2l, 1) := by decide +kernel
theorem dX8_isSpan_20 : decode cX8_isSpan 20 = .ok (.lcmp, 1) := by decide +kernel
theorem dX8_isSpan_21 : decode cX8_isSpan 21 = .ok (.ifCond .gt 7, 3) := by decide +kernel
theorem dX8_isSpan_24 : decode cX8_isSpan 24 = .ok (.iconst 1, 1) := by decide +kernel
theorem dX8_isSpan_25 : decode cX8_isSpan 25 = .ok (.goto 4, 3) := by decide +kernel
theorem dX8_isSpan_28 : decode cX8_isSpan 28 = .ok (.iconst 0, 1) := by decide +kernel
theorem dX8_isSpan_29 : decode cX8_isSpan 29 = .ok (.ireturn, 1) := by decide +kernel
theorem dX8_copy_0 : decode cX8_copy 0 = .ok (.iload_n 1, 1) := by decide +kernel
theorem dX8_copy_1 : decode cX8_copy 1 = .ok (.invokestatic 52, 3) := by decide +kernel
theorem dX8_copy_4 : decode cX8_copy 4 = .ok (.ifCond .eq 10, 3) := by decide +kernel
theorem dX8_copy_7 : decode cX8_copy 7 = .ok (.iload_n 3, 1) := by decide +kernel
theorem dX8_copy_8 : decode cX8_copy 8 = .ok (.invokestatic 52, 3) := by decide +kernel
theorem dX8_copy_11 : decode cX8_copy 11 = .ok (.ifCond .ne 6, 3) := by decide +kernel
theorem dX8_copy_14 : decode cX8_copy 14 = .ok (.ldc 58, 2) := by decide +kernel
theorem dX8_copy_16 : decode cX8_copy 16 = .ok (.ireturn, 1) := by decide +kernel
theorem dX8_copy_17 : decode cX8_copy 17 = .ok (.aload_n 0, 1) := by decide +kernel
theorem dX8_copy_18 : decode cX8_copy 18 = .ok (.getfield 20, 3) := by decide +kernel
theorem dX8_copy_21 : decode cX8_copy 21 = .ok (.iload_n 1, 1) := by decide +kernel
theorem dX8_copy_22 : decode cX8_copy 22 = .ok (.iaload, 1) := by decide +kernel
theorem dX8_copy_23 : decode cX8_copy 23 = .ok (.ifCond .lt 12, 3) := by decide +kernel
theorem dX8_copy_26 : decode cX8_copy 26 = .ok (.aload_n 0, 1) := by decide +kernel
theorem dX8_copy_27 : decode cX8_copy 27 = .ok (.getfield 20, 3) := by decide +kernel
theorem dX8_copy_30 : decode cX8_copy 30 = .ok (.iload_n 3, 1) := by decide +kernel
theorem dX8_copy_31 : decode cX8_copy 31 = .ok (.iaload, 1) := by decide +kernel
theorem dX8_copy_32 : decode cX8_copy 32 = .ok (.ifCond .ge 9, 3) := by decide +kernel
theorem dX8_copy_35 : decode cX8_copy 35 = .ok (.aload_n 0, 1) := by decide +kernel
theorem dX8_copy_36 : decode cX8_copy 36 = .ok (.iconst 1, 1) := by decide +kernel
theorem dX8_copy_37 : decode cX8_copy 37 = .ok (.invokevirtual 59, 3) := by decide +kernel
theorem dX8_copy_40 : decode cX8_copy 40 = .ok (.ireturn, 1) := by decide +kernel
theorem dX8_copy_41 : decode cX8_copy 41 = .ok (.aload_n 0, 1) := by decide +kernel
theorem dX8_copy_42 : decode cX8_copy 42 = .ok (.getfield 17, 3) := by decide +kernel
theorem dX8_copy_45 : decode cX8_copy 45 = .ok (.iload_n 1, 1) := by decide +kernel
theorem dX8_copy_46 : decode cX8_copy 46 = .ok (.iaload, 1) := by decide +kernel
theorem dX8_copy_47 : decode cX8_copy 47 = .ok (.aload_n 0, 1) := by decide +kernel
theorem dX8_copy_48 : decode cX8_copy 48 = .ok (.getfield 17, 3) := by decide +kernel
theorem dX8_copy_51 : decode cX8_copy 51 = .ok (.iload_n 3, 1) := by decide +kernel
theorem dX8_copy_52 : decode cX8_copy 52 = .ok (.iaload, 1) := by decide +kernel
theorem dX8_copy_53 : decode cX8_copy 53 = .ok (.if_icmp .eq 9, 3) := by decide +kernel
theorem dX8_copy_56 : decode cX8_copy 56 = .ok (.aload_n 0, 1) := by decide +kernel
theorem dX8_copy_57 : decode cX8_copy 57 = .ok (.iconst 5, 1) := by decide +kernel
theorem dX8_copy_58 : decode cX8_copy 58 = .ok (.invokevirtual 59, 3) := by decide +kernel
theorem dX8_copy_61 : decode cX8_copy 61 = .ok (.ireturn, 1) := by decide +kernel
theorem dX8_copy_62 : decode cX8_copy 62 = .ok (.aload_n 0, 1) := by decide +kernel
theorem dX8_copy_63 : decode cX8_copy 63 = .ok (.iload_n 1, 1) := by decide +kernel
theorem dX8_copy_64 : decode cX8_copy 64 = .ok (.iload_n 2, 1) := by decide +kernel
theorem dX8_copy_65 : decode cX8_copy 65 = .ok (.iload 5, 2) := by decide +kernel
theorem dX8_copy_67 : decode cX8_copy 67 = .ok (.invokevirtual 70, 3) := by decide +kernel
theorem dX8_copy_70 : decode cX8_copy 70 = .ok (.ifCond .eq 15, 3) := by decide +kernel
theorem dX8_copy_73 : decode cX8_copy 73 = .ok (.aload_n 0, 1) := by decide +kernel
theorem dX8_copy_74 : decode cX8_copy 74 = .ok (.iload_n 3, 1) := by decide +kernel
theorem dX8_copy_75 : decode cX8_copy 75 = .ok (.iload 4, 2) := by decide +kernel
theorem dX8_copy_77 : decode cX8_copy 77 = .ok (.iload 5, 2) := by decide +kernel
theorem dX8_copy_79 : decode cX8_copy 79 = .ok (.invokevirtual 70, 3) := by decide +kernel
theorem dX8_copy_82 : decode cX8_copy 82 = .ok (.ifCond .ne 9, 3) := by decide +kernel
theorem dX8_copy_85 : decode cX8_copy 85 = .ok (.aload_n 0, 1) := by decide +kernel
theorem dX8_copy_86 : decode cX8_copy 86 = .ok (.iconst 2, 1) := by decide +kernel
theorem dX8_copy_87 : decode cX8_copy 87 = .ok (.invokevirtual 59, 3) := by decide +kernel
theorem dX8_copy_90 : decode cX8_copy 90 = .ok (.ireturn, 1) := by decide +kernel
theorem dX8_copy_91 : decode cX8_copy 91 = .ok (.iload_n 2, 1) := by decide +kernel
theorem dX8_copy_92 : decode cX8_copy 92 = .ok (.iload 4, 2) := by decide +kernel
theorem dX8_copy_94 : decode cX8_copy 94 = .ok (.if_icmp .ge 7, 3) := by decide +kernel
theorem dX8_copy_97 : decode cX8_copy 97 = .ok (.iconst 1, 1) := by decide +kernel
theorem dX8_copy_98 : decode cX8_copy 98 = .ok (.goto 4, 3) := by decide +kernel
theorem dX8_copy_101 : decode cX8_copy 101 = .ok (.iconst 0, 1) := by decide +kernel
theorem dX8_copy_102 : decode cX8_copy 102 = .ok (.istore 6, 2) := by decide +kernel
theorem dX8_copy_104 : decode cX8_copy 104 = .ok (.iconst 0, 1) := by decide +kernel
theorem dX8_copy_105 : decode cX8_copy 105 = .ok (.istore 7, 2) := by decide +kernel
theorem dX8_copy_107 : decode cX8_copy 107 = .ok (.iload 7, 2) := by decide +kernel
theorem dX8_copy_109 : decode cX8_copy 109 = .ok (.iload 5, 2) := by decide +kernel
theorem dX8_copy_111 : decode cX8_copy 111 = .ok (.if_icmp .ge 57, 3) := by decide +kernel
theorem dX8_copy_114 : decode cX8_copy 114 = .ok (.iload 6, 2) := by decide +kernel
theorem dX8_copy_116 : decode cX8_copy 116 = .ok (.ifCond .eq 13, 3) := by decide +kernel
theorem dX8_copy_119 : decode cX8_copy 119 = .ok (.iload 5, 2) := by decide +kernel
theorem dX8_copy_121 : decode cX8_copy 121 = .ok (.iconst 1, 1) := by decide +kernel
theorem dX8_copy_122 : decode cX8_copy 122 = .ok (.isub, 1) := by decide +kernel
theorem dX8_copy_123 : decode cX8_copy 123 = .ok (.iload 7, 2) := by decide +kernel
theorem dX8_copy_125 : decode cX8_copy 125 = .ok (.isub, 1) := by decide +kernel
theorem dX8_copy_126 : decode cX8_copy 126 = .ok (.goto 5, 3) := by decide +kernel
theorem dX8_copy_129 : decode cX8_copy 129 = .ok (.iload 7, 2) := by decide +kernel
theorem dX8_copy_131 : decode cX8_copy 131 = .ok (.istore 8, 2) := by decide +kernel
theorem dX8_copy_133 : decode cX8_copy 133 = .ok (.aload_n 0, 1) := by decide +kernel
theorem dX8_copy_134 : decode cX8_copy 134 = .ok (.getfield 23, 3) := by decide +kernel
theorem dX8_copy_137 : decode cX8_copy 137 = .ok (.bipush 40, 2) := by decide +kernel
theorem dX8_copy_139 : decode cX8_copy 139 = .ok (.iload_n 3, 1) := by decide +kernel
theorem dX8_copy_140 : decode cX8_copy 140 = .ok (.imul, 1) := by decide +kernel
theorem dX8_copy_141 : decode cX8_copy 141 = .ok (.iload 4, 2) := by decide +kernel
theorem dX8_copy_143 : decode cX8_copy 143 = .ok (.iadd, 1) := by decide +kernel
theorem dX8_copy_144 : decode cX8_copy 144 = .ok (.iload 8, 2) := by decide +kernel
theorem dX8_copy_146 : decode cX8_copy 146 = .ok (.iadd, 1) := by decide +kernel
theorem dX8_copy_147 : decode cX8_copy 147 = .ok (.aload_n 0, 1) := by decide +kernel
theorem dX8_copy_148 : decode cX8_copy 148 = .ok (.getfield 23, 3) := by decide +kernel
theorem dX8_copy_151 : decode cX8_copy 151 = .ok (.bipush 40, 2) := by decide +kernel
theorem dX8_copy_153 : decode cX8_copy 153 = .ok (.iload_n 1, 1) := by decide +kernel
theorem dX8_copy_154 : decode cX8_copy 154 = .ok (.imul, 1) := by decide +kernel
theorem dX8_copy_155 : decode cX8_copy 155 = .ok (.iload_n 2, 1) := by decide +kernel
theorem dX8_copy_156 : decode cX8_copy 156 = .ok (.iadd, 1) := by decide +kernel
theorem dX8_copy_157 : decode cX8_copy 157 = .ok (.iload 8, 2) := by decide +kernel
theorem dX8_copy_159 : decode cX8_copy 159 = .ok (.iadd, 1) := by decide +kernel
theorem dX8_copy_160 : decode cX8_copy 160 = .ok (.iaload, 1) := by decide +kernel
theorem dX8_copy_161 : decode cX8_copy 161 = .ok (.iastore, 1) := by decide +kernel
theorem dX8_copy_162 : decode cX8_copy 162 = .ok (.iinc 7 1, 3) := by decide +kernel
theorem dX8_copy_165 : decode cX8_copy 165 = .ok (.goto (-58), 3) := by decide +kernel
theorem dX8_copy_168 : decode cX8_copy 168 = .ok (.aload_n 0, 1) := by decide +kernel
theorem dX8_copy_169 : decode cX8_copy 169 = .ok (.iload 5, 2) := by decide +kernel
theorem dX8_copy_171 : decode cX8_copy 171 = .ok (.invokevirtual 63, 3) := by decide +kernel
theorem dX8_copy_174 : decode cX8_copy 174 = .ok (.ireturn, 1) := by decide +kernel
theorem dX8_drop_0 : decode cX8_drop 0 = .ok (.iload_n 1, 1) := by decide +kernel
theorem dX8_drop_1 : decode cX8_drop 1 = .ok (.invokestatic 52, 3) := by decide +kernel
theorem dX8_drop_4 : decode cX8_drop 4 = .ok (.ifCond .ne 6, 3) := by decide +kernel
theorem dX8_drop_7 : decode cX8_drop 7 = .ok (.ldc 58, 2) := by decide +kernel
theorem dX8_drop_9 : decode cX8_drop 9 = .ok (.ireturn, 1) := by decide +kernel
theorem dX8_drop_10 : decode cX8_drop 10 = .ok (.aload_n 0, 1) := by decide +kernel
theorem dX8_drop_11 : decode cX8_drop 11 = .ok (.getfield 20, 3) := by decide +kernel
theorem dX8_drop_14 : decode cX8_drop 14 = .ok (.iload_n 1, 1) := by decide +kernel
theorem dX8_drop_15 : decode cX8_drop 15 = .ok (.iaload, 1) := by decide +kernel
theorem dX8_drop_16 : decode cX8_drop 16 = .ok (.ifCond .ge 9, 3) := by decide +kernel
theorem dX8_drop_19 : decode cX8_drop 19 = .ok (.aload_n 0, 1) := by decide +kernel
theorem dX8_drop_20 : decode cX8_drop 20 = .ok (.iconst 1, 1) := by decide +kernel
theorem dX8_drop_21 : decode cX8_drop 21 = .ok (.invokevirtual 59, 3) := by decide +kernel
theorem dX8_drop_24 : decode cX8_drop 24 = .ok (.ireturn, 1) := by decide +kernel
theorem dX8_drop_25 : decode cX8_drop 25 = .ok (.aload_n 0, 1) := by decide +kernel
theorem dX8_drop_26 : decode cX8_drop 26 = .ok (.getfield 20, 3) := by decide +kernel
theorem dX8_drop_29 : decode cX8_drop 29 = .ok (.iload_n 1, 1) := by decide +kernel
theorem dX8_drop_30 : decode cX8_drop 30 = .ok (.iaload, 1) := by decide +kernel
theorem dX8_drop_31 : decode cX8_drop 31 = .ok (.istore_n 2, 1) := by decide +kernel
theorem dX8_drop_32 : decode cX8_drop 32 = .ok (.aload_n 0, 1) := by decide +kernel
theorem dX8_drop_33 : decode cX8_drop 33 = .ok (.getfield 20, 3) := by decide +kernel
theorem dX8_drop_36 : decode cX8_drop 36 = .ok (.iload_n 1, 1) := by decide +kernel
theorem dX8_drop_37 : decode cX8_drop 37 = .ok (.iconst (-1), 1) := by decide +kernel
theorem dX8_drop_38 : decode cX8_drop 38 = .ok (.iastore, 1) := by decide +kernel
theorem dX8_drop_39 : decode cX8_drop 39 = .ok (.aload_n 0, 1) := by decide +kernel
theorem dX8_drop_40 : decode cX8_drop 40 = .ok (.iload_n 2, 1) := by decide +kernel
theorem dX8_drop_41 : decode cX8_drop 41 = .ok (.invokevirtual 63, 3) := by decide +kernel
theorem dX8_drop_44 : decode cX8_drop 44 = .ok (.ireturn, 1) := by decide +kernel
theorem dX8_feed_0 : decode cX8_feed 0 = .ok (.iload_n 1, 1) := by decide +kernel
theorem dX8_feed_1 : decode cX8_feed 1 = .ok (.i2l, 1) := by decide +kernel
theorem dX8_feed_2 : decode cX8_feed 2 = .ok (.lconst 0, 1) := by decide +kernel
theorem dX8_feed_3 : decode cX8_feed 3 = .ok (.ldc2_w 74, 3) := by decide +kernel
theorem dX8_feed_6 : decode cX8_feed 6 = .ok (.invokestatic 48, 3) := by decide +kernel
theorem dX8_feed_9 : decode cX8_feed 9 = .ok (.ifCond .ne 6, 3) := by decide +kernel
theorem dX8_feed_12 : decode cX8_feed 12 = .ok (.ldc 58, 2) := by decide +kernel
theorem dX8_feed_14 : decode cX8_feed 14 = .ok (.ireturn, 1) := by decide +kernel
theorem dX8_feed_15 : decode cX8_feed 15 = .ok (.aload_n 0, 1) := by decide +kernel
theorem dX8_feed_16 : decode cX8_feed 16 = .ok (.getfield 76, 3) := by decide +kernel
theorem dX8_feed_19 : decode cX8_feed 19 = .ok (.bipush 110, 2) := by decide +kernel
theorem dX8_feed_21 : decode cX8_feed 21 = .ok (.if_icmp .ne 6, 3) := by decide +kernel
theorem dX8_feed_24 : decode cX8_feed 24 = .ok (.ldc 79, 2) := by decide +kernel
theorem dX8_feed_26 : decode cX8_feed 26 = .ok (.ireturn, 1) := by decide +kernel
theorem dX8_feed_27 : decode cX8_feed 27 = .ok (.aload_n 0, 1) := by decide +kernel
theorem dX8_feed_28 : decode cX8_feed 28 = .ok (.getfield 26, 3) := by decide +kernel
theorem dX8_feed_31 : decode cX8_feed 31 = .ok (.aload_n 0, 1) := by decide +kernel
theorem dX8_feed_32 : decode cX8_feed 32 = .ok (.getfield 76, 3) := by decide +kernel
theorem dX8_feed_35 : decode cX8_feed 35 = .ok (.iload_n 1, 1) := by decide +kernel
theorem dX8_feed_36 : decode cX8_feed 36 = .ok (.iastore, 1) := by decide +kernel
theorem dX8_feed_37 : decode cX8_feed 37 = .ok (.aload_n 0, 1) := by decide +kernel
theorem dX8_feed_38 : decode cX8_feed 38 = .ok (.dup, 1) := by decide +kernel
theorem dX8_feed_39 : decode cX8_feed 39 = .ok (.getfield 76, 3) := by decide +kernel
theorem dX8_feed_42 : decode cX8_feed 42 = .ok (.iconst 1, 1) := by decide +kernel
theorem dX8_feed_43 : decode cX8_feed 43 = .ok (.iadd, 1) := by decide +kernel
theorem dX8_feed_44 : decode cX8_feed 44 = .ok (.putfield 76, 3) := by decide +kernel
theorem dX8_feed_47 : decode cX8_feed 47 = .ok (.aload_n 0, 1) := by decide +kernel
theorem dX8_feed_48 : decode cX8_feed 48 = .ok (.getfield 76, 3) := by decide +kernel
theorem dX8_feed_51 : decode cX8_feed 51 = .ok (.ireturn, 1) := by decide +kernel
theorem dX8_isLetter_0 : decode cX8_isLetter 0 = .ok (.aload_n 0, 1) := by decide +kernel
theorem dX8_isLetter_1 : decode cX8_isLetter 1 = .ok (.getfield 80, 3) := by decide +kernel
theorem dX8_isLetter_4 : decode cX8_isLetter 4 = .ok (.aload_n 0, 1) := by decide +kernel
theorem dX8_isLetter_5 : decode cX8_isLetter 5 = .ok (.getfield 76, 3) := by decide +kernel
theorem dX8_isLetter_8 : decode cX8_isLetter 8 = .ok (.if_icmp .ge 20, 3) := by decide +kernel
theorem dX8_isLetter_11 : decode cX8_isLetter 11 = .ok (.aload_n 0, 1) := by decide +kernel
theorem dX8_isLetter_12 : decode cX8_isLetter 12 = .ok (.getfield 26, 3) := by decide +kernel
theorem dX8_isLetter_15 : decode cX8_isLetter 15 = .ok (.aload_n 0, 1) := by decide +kernel
theorem dX8_isLetter_16 : decode cX8_isLetter 16 = .ok (.getfield 80, 3) := by decide +kernel
theorem dX8_isLetter_19 : decode cX8_isLetter 19 = .ok (.iaload, 1) := by decide +kernel
theorem dX8_isLetter_20 : decode cX8_isLetter 20 = .ok (.iload_n 1, 1) := by decide +kernel
theorem dX8_isLetter_21 : decode cX8_isLetter 21 = .ok (.if_icmp .ne 7, 3) := by decide +kernel
theorem dX8_isLetter_24 : decode cX8_isLetter 24 = .ok (.iconst 1, 1) := by decide +kernel
theorem dX8_isLetter_25 : decode cX8_isLetter 25 = .ok (.goto 4, 3) := by decide +kernel
theorem dX8_isLetter_28 : decode cX8_isLetter 28 = .ok (.iconst 0, 1) := by decide +kernel
theorem dX8_isLetter_29 : decode cX8_isLetter 29 = .ok (.ireturn, 1) := by decide +kernel
theorem dX8_isFigure_0 : decode cX8_isFigure 0 = .ok (.iload_n 1, 1) := by decide +kernel
theorem dX8_isFigure_1 : decode cX8_isFigure 1 = .ok (.aload_n 0, 1) := by decide +kernel
theorem dX8_isFigure_2 : decode cX8_isFigure 2 = .ok (.getfield 76, 3) := by decide +kernel
theorem dX8_isFigure_5 : decode cX8_isFigure 5 = .ok (.if_icmp .ge 26, 3) := by decide +kernel
theorem dX8_isFigure_8 : decode cX8_isFigure 8 = .ok (.aload_n 0, 1) := by decide +kernel
theorem dX8_isFigure_9 : decode cX8_isFigure 9 = .ok (.getfield 26, 3) := by decide +kernel
theorem dX8_isFigure_12 : decode cX8_isFigure 12 = .ok (.iload_n 1, 1) := by decide +kernel
theorem dX8_isFigure_13 : decode cX8_isFigure 13 = .ok (.iaload, 1) := by decide +kernel
theorem dX8_isFigure_14 : decode cX8_isFigure 14 = .ok (.i2l, 1) := by decide +kernel
theorem dX8_isFigure_15 : decode cX8_isFigure 15 = .ok (.ldc2_w 83, 3) := by decide +kernel
theorem dX8_isFigure_18 : decode cX8_isFigure 18 = .ok (.ldc2_w 85, 3) := by decide +kernel
theorem dX8_isFigure_21 : decode cX8_isFigure 21 = .ok (.invokestatic 48, 3) := by decide +kernel
theorem dX8_isFigure_24 : decode cX8_isFigure 24 = .ok (.ifCond .eq 7, 3) := by decide +kernel
theorem dX8_isFigure_27 : decode cX8_isFigure 27 = .ok (.iconst 1, 1) := by decide +kernel
theorem dX8_isFigure_28 : decode cX8_isFigure 28 = .ok (.goto 4, 3) := by decide +kernel
theorem dX8_isFigure_31 : decode cX8_isFigure 31 = .ok (.iconst 0, 1) := by decide +kernel
theorem dX8_isFigure_32 : decode cX8_isFigure 32 = .ok (.ireturn, 1) := by decide +kernel
theorem dX8_refuse_0 : decode cX8_refuse 0 = .ok (.aload_n 0, 1) := by decide +kernel
theorem dX8_refuse_1 : decode cX8_refuse 1 = .ok (.iload_n 1, 1) := by decide +kernel
theorem dX8_refuse_2 : decode cX8_refuse 2 = .ok (.putfield 87, 3) := by decide +kernel
theorem dX8_refuse_5 : decode cX8_refuse 5 = .ok (.iconst 0, 1) := by decide +kernel
theorem dX8_refuse_6 : decode cX8_refuse 6 = .ok (.ireturn, 1) := by decide +kernel
theorem dX8_sign_0 : decode cX8_sign 0 = .ok (.aload_n 0, 1) := by decide +kernel
theorem dX8_sign_1 : decode cX8_sign 1 = .ok (.iload_n 1, 1) := by decide +kernel
theorem dX8_sign_2 : decode cX8_sign 2 = .ok (.invokevirtual 90, 3) := by decide +kernel
theorem dX8_sign_5 : decode cX8_sign 5 = .ok (.ifCond .ne 9, 3) := by decide +kernel
theorem dX8_sign_8 : decode cX8_sign 8 = .ok (.aload_n 0, 1) := by decide +kernel
theorem dX8_sign_9 : decode cX8_sign 9 = .ok (.iconst 1, 1) := by decide +kernel
theorem dX8_sign_10 : decode cX8_sign 10 = .ok (.invokevirtual 93, 3) := by decide +kernel
theorem dX8_sign_13 : decode cX8_sign 13 = .ok (.ireturn, 1) := by decide +kernel
theorem dX8_sign_14 : decode cX8_sign 14 = .ok (.aload_n 0, 1) := by decide +kernel
theorem dX8_sign_15 : decode cX8_sign 15 = .ok (.dup, 1) := by decide +kernel
theorem dX8_sign_16 : decode cX8_sign 16 = .ok (.getfield 80, 3) := by decide +kernel
theorem dX8_sign_19 : decode cX8_sign 19 = .ok (.iconst 1, 1) := by decide +kernel
theorem dX8_sign_20 : decode cX8_sign 20 = .ok (.iadd, 1) := by decide +kernel
theorem dX8_sign_21 : decode cX8_sign 21 = .ok (.putfield 80, 3) := by decide +kernel
theorem dX8_sign_24 : decode cX8_sign 24 = .ok (.iconst 1, 1) := by decide +kernel
theorem dX8_sign_25 : decode cX8_sign 25 = .ok (.ireturn, 1) := by decide +kernel
theorem dX8_readsNumber_0 : decode cX8_readsNumber 0 = .ok (.aload_n 0, 1) := by decide +kernel
theorem dX8_readsNumber_1 : decode cX8_readsNumber 1 = .ok (.aload_n 0, 1) := by decide +kernel
theorem dX8_readsNumber_2 : decode cX8_readsNumber 2 = .ok (.getfield 80, 3) := by decide +kernel
theorem dX8_readsNumber_5 : decode cX8_readsNumber 5 = .ok (.invokevirtual 96, 3) := by decide +kernel
theorem dX8_readsNumber_8 : decode cX8_readsNumber 8 = .ok (.ifCond .eq 29, 3) := by decide +kernel
theorem dX8_readsNumber_11 : decode cX8_readsNumber 11 = .ok (.aload_n 0, 1) := by decide +kernel
theorem dX8_readsNumber_12 : decode cX8_readsNumber 12 = .ok (.aload_n 0, 1) := by decide +kernel
theorem dX8_readsNumber_13 : decode cX8_readsNumber 13 = .ok (.getfield 80, 3) := by decide +kernel
theorem dX8_readsNumber_16 : decode cX8_readsNumber 16 = .ok (.iconst 1, 1) := by decide +kernel
theorem dX8_readsNumber_17 : decode cX8_readsNumber 17 = .ok (.iadd, 1) := by decide +kernel
theorem dX8_readsNumber_18 : decode cX8_readsNumber 18 = .ok (.invokevirtual 96, 3) := by decide +kernel
theorem dX8_readsNumber_21 : decode cX8_readsNumber 21 = .ok (.ifCond .eq 22, 3) := by decide +kernel
theorem dX8_readsNumber_24 : decode cX8_readsNumber 24 = .ok (.aload_n 0, 1) := by decide +kernel
theorem dX8_readsNumber_25 : decode cX8_readsNumber 25 = .ok (.aload_n 0, 1) := by decide +kernel
theorem dX8_readsNumber_26 : decode cX8_readsNumber 26 = .ok (.getfield 80, 3) := by decide +kernel
theorem dX8_readsNumber_29 : decode cX8_readsNumber 29 = .ok (.iconst 2, 1) := by decide +kernel
theorem dX8_readsNumber_30 : decode cX8_readsNumber 30 = .ok (.iadd, 1) := by decide +kernel
theorem dX8_readsNumber_31 : decode cX8_readsNumber 31 = .ok (.invokevirtual 96, 3) := by decide +kernel
theorem dX8_readsNumber_34 : decode cX8_readsNumber 34 = .ok (.ifCond .eq 9, 3) := by decide +kernel
theorem dX8_readsNumber_37 : decode cX8_readsNumber 37 = .ok (.aload_n 0, 1) := by decide +kernel
theorem dX8_readsNumber_38 : decode cX8_readsNumber 38 = .ok (.iconst 1, 1) := by decide +kernel
theorem dX8_readsNumber_39 : decode cX8_readsNumber 39 = .ok (.invokevirtual 93, 3) := by decide +kernel
theorem dX8_readsNumber_42 : decode cX8_readsNumber 42 = .ok (.ireturn, 1) := by decide +kernel
theorem dX8_readsNumber_43 : decode cX8_readsNumber 43 = .ok (.aload_n 0, 1) := by decide +kernel
theorem dX8_readsNumber_44 : decode cX8_readsNumber 44 = .ok (.aload_n 0, 1) := by decide +kernel
theorem dX8_readsNumber_45 : decode cX8_readsNumber 45 = .ok (.getfield 26, 3) := by decide +kernel
theorem dX8_readsNumber_48 : decode cX8_readsNumber 48 = .ok (.aload_n 0, 1) := by decide +kernel
theorem dX8_readsNumber_49 : decode cX8_readsNumber 49 = .ok (.getfield 80, 3) := by decide +kernel
theorem dX8_readsNumber_52 : decode cX8_readsNumber 52 = .ok (.iaload, 1) := by decide +kernel
theorem dX8_readsNumber_53 : decode cX8_readsNumber 53 = .ok (.bipush 48, 2) := by decide +kernel
theorem dX8_readsNumber_55 : decode cX8_readsNumber 55 = .ok (.isub, 1) := by decide +kernel
theorem dX8_readsNumber_56 : decode cX8_readsNumber 56 = .ok (.putfield 99, 3) := by decide +kernel
theorem dX8_readsNumber_59 : decode cX8_readsNumber 59 = .ok (.aload_n 0, 1) := by decide +kernel
theorem dX8_readsNumber_60 : decode cX8_readsNumber 60 = .ok (.aload_n 0, 1) := by decide +kernel
theorem dX8_readsNumber_61 : decode cX8_readsNumber 61 = .ok (.getfield 80, 3) := by decide +kernel
theorem dX8_readsNumber_64 : decode cX8_readsNumber 64 = .ok (.iconst 1, 1) := by decide +kernel
theorem dX8_readsNumber_65 : decode cX8_readsNumber 65 = .ok (.iadd, 1) := by decide +kernel
theorem dX8_readsNumber_66 : decode cX8_readsNumber 66 = .ok (.invokevirtual 96, 3) := by decide +kernel
theorem dX8_readsNumber_69 : decode cX8_readsNumber 69 = .ok (.ifCond .eq 7, 3) := by decide +kernel
theorem dX8_readsNumber_72 : decode cX8_readsNumber 72 = .ok (.iconst 2, 1) := by decide +kernel
theorem dX8_readsNumber_73 : decode cX8_readsNumber 73 = .ok (.goto 4, 3) := by decide +kernel
theorem dX8_readsNumber_76 : decode cX8_readsNumber 76 = .ok (.iconst 1, 1) := by decide +kernel
theorem dX8_readsNumber_77 : decode cX8_readsNumber 77 = .ok (.istore_n 3, 1) := by decide +kernel
theorem dX8_readsNumber_78 : decode cX8_readsNumber 78 = .ok (.aload_n 0, 1) := by decide +kernel
theorem dX8_readsNumber_79 : decode cX8_readsNumber 79 = .ok (.iload_n 3, 1) := by decide +kernel
theorem dX8_readsNumber_80 : decode cX8_readsNumber 80 = .ok (.iconst 2, 1) := by decide +kernel
theorem dX8_readsNumber_81 : decode cX8_readsNumber 81 = .ok (.if_icmp .ne 28, 3) := by decide +kernel
theorem dX8_readsNumber_84 : decode cX8_readsNumber 84 = .ok (.bipush 10, 2) := by decide +kernel
theorem dX8_readsNumber_86 : decode cX8_readsNumber 86 = .ok (.aload_n 0, 1) := by decide +kernel
theorem dX8_readsNumber_87 : decode cX8_readsNumber 87 = .ok (.getfield 99, 3) := by decide +kernel
theorem dX8_readsNumber_90 : decode cX8_readsNumber 90 = .ok (.imul, 1) := by decide +kernel
theorem dX8_readsNumber_91 : decode cX8_readsNumber 91 = .ok (.aload_n 0, 1) := by decide +kernel
theorem dX8_readsNumber_92 : decode cX8_readsNumber 92 = .ok (.getfield 26, 3) := by decide +kernel
theorem dX8_readsNumber_95 : decode cX8_readsNumber 95 = .ok (.aload_n 0, 1) := by decide +kernel
theorem dX8_readsNumber_96 : decode cX8_readsNumber 96 = .ok (.getfield 80, 3) := by decide +kernel
theorem dX8_readsNumber_99 : decode cX8_readsNumber 99 = .ok (.iconst 1, 1) := by decide +kernel
theorem dX8_readsNumber_100 : decode cX8_readsNumber 100 = .ok (.iadd, 1) := by decide +kernel
theorem dX8_readsNumber_101 : decode cX8_readsNumber 101 = .ok (.iaload, 1) := by decide +kernel
theorem dX8_readsNumber_102 : decode cX8_readsNumber 102 = .ok (.iadd, 1) := by decide +kernel
theorem dX8_readsNumber_103 : decode cX8_readsNumber 103 = .ok (.bipush 48, 2) := by decide +kernel
theorem dX8_readsNumber_105 : decode cX8_readsNumber 105 = .ok (.isub, 1) := by decide +kernel
theorem dX8_readsNumber_106 : decode cX8_readsNumber 106 = .ok (.goto 7, 3) := by decide +kernel
theorem dX8_readsNumber_109 : decode cX8_readsNumber 109 = .ok (.aload_n 0, 1) := by decide +kernel
theorem dX8_readsNumber_110 : decode cX8_readsNumber 110 = .ok (.getfield 99, 3) := by decide +kernel
theorem dX8_readsNumber_113 : decode cX8_readsNumber 113 = .ok (.putfield 99, 3) := by decide +kernel
theorem dX8_readsNumber_116 : decode cX8_readsNumber 116 = .ok (.aload_n 0, 1) := by decide +kernel
theorem dX8_readsNumber_117 : decode cX8_readsNumber 117 = .ok (.getfield 99, 3) := by decide +kernel
theorem dX8_readsNumber_120 : decode cX8_readsNumber 120 = .ok (.i2l, 1) := by decide +kernel
theorem dX8_readsNumber_121 : decode cX8_readsNumber 121 = .ok (.iload_n 1, 1) := by decide +kernel
theorem dX8_readsNumber_122 : decode cX8_readsNumber 122 = .ok (.i2l, 1) := by decide +kernel
theorem dX8_readsNumber_123 : decode cX8_readsNumber 123 = .ok (.iload_n 2, 1) := by decide +kernel
theorem dX8_readsNumber_124 : decode cX8_readsNumber 124 = .ok (.i2l, 1) := by decide +kernel
theorem dX8_readsNumber_125 : decode cX8_readsNumber 125 = .ok (.invokestatic 48, 3) := by decide +kernel
theorem dX8_readsNumber_128 : decode cX8_readsNumber 128 = .ok (.ifCond .ne 9, 3) := by decide +kernel
theorem dX8_readsNumber_131 : decode cX8_readsNumber 131 = .ok (.aload_n 0, 1) := by decide +kernel
theorem dX8_readsNumber_132 : decode cX8_readsNumber 132 = .ok (.iconst 2, 1) := by decide +kernel
theorem dX8_readsNumber_133 : decode cX8_readsNumber 133 = .ok (.invokevirtual 93, 3) := by decide +kernel
theorem dX8_readsNumber_136 : decode cX8_readsNumber 136 = .ok (.ireturn, 1) := by decide +kernel
theorem dX8_readsNumber_137 : decode cX8_readsNumber 137 = .ok (.aload_n 0, 1) := by decide +kernel
theorem dX8_readsNumber_138 : decode cX8_readsNumber 138 = .ok (.dup, 1) := by decide +kernel
theorem dX8_readsNumber_139 : decode cX8_readsNumber 139 = .ok (.getfield 80, 3) := by decide +kernel
theorem dX8_readsNumber_142 : decode cX8_readsNumber 142 = .ok (.iload_n 3, 1) := by decide +kernel
theorem dX8_readsNumber_143 : decode cX8_readsNumber 143 = .ok (.iadd, 1) := by decide +kernel
theorem dX8_readsNumber_144 : decode cX8_readsNumber 144 = .ok (.putfield 80, 3) := by decide +kernel
theorem dX8_readsNumber_147 : decode cX8_readsNumber 147 = .ok (.iconst 1, 1) := by decide +kernel
theorem dX8_readsNumber_148 : decode cX8_readsNumber 148 = .ok (.ireturn, 1) := by decide +kernel
theorem dX8_readsLaw_0 : decode cX8_readsLaw 0 = .ok (.aload_n 0, 1) := by decide +kernel
theorem dX8_readsLaw_1 : decode cX8_readsLaw 1 = .ok (.bipush 98, 2) := by decide +kernel
theorem dX8_readsLaw_3 : decode cX8_readsLaw 3 = .ok (.invokevirtual 102, 3) := by decide +kernel
theorem dX8_readsLaw_6 : decode cX8_readsLaw 6 = .ok (.ifCond .eq 13, 3) := by decide +kernel
theorem dX8_readsLaw_9 : decode cX8_readsLaw 9 = .ok (.aload_n 0, 1) := by decide +kernel
theorem dX8_readsLaw_10 : decode cX8_readsLaw 10 = .ok (.iconst 4, 1) := by decide +kernel
theorem dX8_readsLaw_11 : decode cX8_readsLaw 11 = .ok (.bipush 12, 2) := by decide +kernel
theorem dX8_readsLaw_13 : decode cX8_readsLaw 13 = .ok (.invokevirtual 105, 3) := by decide +kernel
theorem dX8_readsLaw_16 : decode cX8_readsLaw 16 = .ok (.ifCond .ne 5, 3) := by decide +kernel
theorem dX8_readsLaw_19 : decode cX8_readsLaw 19 = .ok (.iconst 0, 1) := by decide +kernel
theorem dX8_readsLaw_20 : decode cX8_readsLaw 20 = .ok (.ireturn, 1) := by decide +kernel
theorem dX8_readsLaw_21 : decode cX8_readsLaw 21 = .ok (.aload_n 0, 1) := by decide +kernel
theorem dX8_readsLaw_22 : decode cX8_readsLaw 22 = .ok (.getfield 7, 3) := by decide +kernel
theorem dX8_readsLaw_25 : decode cX8_readsLaw 25 = .ok (.sipush 1053, 3) := by decide +kernel
theorem dX8_readsLaw_28 : decode cX8_readsLaw 28 = .ok (.aload_n 0, 1) := by decide +kernel
theorem dX8_readsLaw_29 : decode cX8_readsLaw 29 = .ok (.getfield 99, 3) := by decide +kernel
theorem dX8_readsLaw_32 : decode cX8_readsLaw 32 = .ok (.iastore, 1) := by decide +kernel
theorem dX8_readsLaw_33 : decode cX8_readsLaw 33 = .ok (.aload_n 0, 1) := by decide +kernel
theorem dX8_readsLaw_34 : decode cX8_readsLaw 34 = .ok (.bipush 59, 2) := by decide +kernel
theorem dX8_readsLaw_36 : decode cX8_readsLaw 36 = .ok (.invokevirtual 102, 3) := by decide +kernel
theorem dX8_readsLaw_39 : decode cX8_readsLaw 39 = .ok (.ireturn, 1) := by decide +kernel
theorem dX8_kindOfLetter_0 : decode cX8_kindOfLetter 0 = .ok (.iload_n 0, 1) := by decide +kernel
theorem dX8_kindOfLetter_1 : decode cX8_kindOfLetter 1 = .ok (.bipush 99, 2) := by decide +kernel
theorem dX8_kindOfLetter_3 : decode cX8_kindOfLetter 3 = .ok (.if_icmp .ne 7, 3) := by decide +kernel
theorem dX8_kindOfLetter_6 : decode cX8_kindOfLetter 6 = .ok (.iconst 1, 1) := by decide +kernel
theorem dX8_kindOfLetter_7 : decode cX8_kindOfLetter 7 = .ok (.goto 44, 3) := by decide +kernel
theorem dX8_kindOfLetter_10 : decode cX8_kindOfLetter 10 = .ok (.iload_n 0, 1) := by decide +kernel
theorem dX8_kindOfLetter_11 : decode cX8_kindOfLetter 11 = .ok (.bipush 115, 2) := by decide +kernel
theorem dX8_kindOfLetter_13 : decode cX8_kindOfLetter 13 = .ok (.if_icmp .ne 7, 3) := by decide +kernel
theorem dX8_kindOfLetter_16 : decode cX8_kindOfLetter 16 = .ok (.iconst 2, 1) := by decide +kernel
theorem dX8_kindOfLetter_17 : decode cX8_kindOfLetter 17 = .ok (.goto 34, 3) := by decide +kernel
theorem dX8_kindOfLetter_20 : decode cX8_kindOfLetter 20 = .ok (.iload_n 0, 1) := by decide +kernel
theorem dX8_kindOfLetter_21 : decode cX8_kindOfLetter 21 = .ok (.bipush 104, 2) := by decide +kernel
theorem dX8_kindOfLetter_23 : decode cX8_kindOfLetter 23 = .ok (.if_icmp .ne 7, 3) := by decide +kernel
theorem dX8_kindOfLetter_26 : decode cX8_kindOfLetter 26 = .ok (.iconst 3, 1) := by decide +kernel
theorem dX8_kindOfLetter_27 : decode cX8_kindOfLetter 27 = .ok (.goto 24, 3) := by decide +kernel
theorem dX8_kindOfLetter_30 : decode cX8_kindOfLetter 30 = .ok (.iload_n 0, 1) := by decide +kernel
theorem dX8_kindOfLetter_31 : decode cX8_kindOfLetter 31 = .ok (.bipush 108, 2) := by decide +kernel
theorem dX8_kindOfLetter_33 : decode cX8_kindOfLetter 33 = .ok (.if_icmp .ne 7, 3) := by decide +kernel
theorem dX8_kindOfLetter_36 : decode cX8_kindOfLetter 36 = .ok (.iconst 4, 1) := by decide +kernel
theorem dX8_kindOfLetter_37 : decode cX8_kindOfLetter 37 = .ok (.goto 14, 3) := by decide +kernel
theorem dX8_kindOfLetter_40 : decode cX8_kindOfLetter 40 = .ok (.iload_n 0, 1) := by decide +kernel
theorem dX8_kindOfLetter_41 : decode cX8_kindOfLetter 41 = .ok (.bipush 100, 2) := by decide +kernel
theorem dX8_kindOfLetter_43 : decode cX8_kindOfLetter 43 = .ok (.if_icmp .ne 7, 3) := by decide +kernel
theorem dX8_kindOfLetter_46 : decode cX8_kindOfLetter 46 = .ok (.iconst 5, 1) := by decide +kernel
theorem dX8_kindOfLetter_47 : decode cX8_kindOfLetter 47 = .ok (.goto 4, 3) := by decide +kernel
theorem dX8_kindOfLetter_50 : decode cX8_kindOfLetter 50 = .ok (.iconst 0, 1) := by decide +kernel
theorem dX8_kindOfLetter_51 : decode cX8_kindOfLetter 51 = .ok (.ireturn, 1) := by decide +kernel
theorem dX8_readsTraveller_0 : decode cX8_readsTraveller 0 = .ok (.aload_n 0, 1) := by decide +kernel
theorem dX8_readsTraveller_1 : decode cX8_readsTraveller 1 = .ok (.getfield 7, 3) := by decide +kernel
theorem dX8_readsTraveller_4 : decode cX8_readsTraveller 4 = .ok (.sipush 1054, 3) := by decide +kernel
theorem dX8_readsTraveller_7 : decode cX8_readsTraveller 7 = .ok (.iaload, 1) := by decide +kernel
theorem dX8_readsTraveller_8 : decode cX8_readsTraveller 8 = .ok (.istore_n 1, 1) := by decide +kernel
theorem dX8_readsTraveller_9 : decode cX8_readsTraveller 9 = .ok (.iload_n 1, 1) := by decide +kernel
theorem dX8_readsTraveller_10 : decode cX8_readsTraveller 10 = .ok (.bipush 6, 2) := by decide +kernel
theorem dX8_readsTraveller_12 : decode cX8_readsTraveller 12 = .ok (.if_icmp .ne 9, 3) := by decide +kernel
theorem dX8_readsTraveller_15 : decode cX8_readsTraveller 15 = .ok (.aload_n 0, 1) := by decide +kernel
theorem dX8_readsTraveller_16 : decode cX8_readsTraveller 16 = .ok (.iconst 3, 1) := by decide +kernel
theorem dX8_readsTraveller_17 : decode cX8_readsTraveller 17 = .ok (.invokevirtual 93, 3) := by decide +kernel
theorem dX8_readsTraveller_20 : decode cX8_readsTraveller 20 = .ok (.ireturn, 1) := by decide +kernel
theorem dX8_readsTraveller_21 : decode cX8_readsTraveller 21 = .ok (.aload_n 0, 1) := by decide +kernel
theorem dX8_readsTraveller_22 : decode cX8_readsTraveller 22 = .ok (.getfield 7, 3) := by decide +kernel
theorem dX8_readsTraveller_25 : decode cX8_readsTraveller 25 = .ok (.sipush 1056, 3) := by decide +kernel
theorem dX8_readsTraveller_28 : decode cX8_readsTraveller 28 = .ok (.iload_n 1, 1) := by decide +kernel
theorem dX8_readsTraveller_29 : decode cX8_readsTraveller 29 = .ok (.iadd, 1) := by decide +kernel
theorem dX8_readsTraveller_30 : decode cX8_readsTraveller 30 = .ok (.aload_n 0, 1) := by decide +kernel
theorem dX8_readsTraveller_31 : decode cX8_readsTraveller 31 = .ok (.getfield 26, 3) := by decide +kernel
theorem dX8_readsTraveller_34 : decode cX8_readsTraveller 34 = .ok (.aload_n 0, 1) := by decide +kernel
theorem dX8_readsTraveller_35 : decode cX8_readsTraveller 35 = .ok (.getfield 80, 3) := by decide +kernel
theorem dX8_readsTraveller_38 : decode cX8_readsTraveller 38 = .ok (.iaload, 1) := by decide +kernel
theorem dX8_readsTraveller_39 : decode cX8_readsTraveller 39 = .ok (.invokestatic 109, 3) := by decide +kernel
theorem dX8_readsTraveller_42 : decode cX8_readsTraveller 42 = .ok (.iastore, 1) := by decide +kernel
theorem dX8_readsTraveller_43 : decode cX8_readsTraveller 43 = .ok (.aload_n 0, 1) := by decide +kernel
theorem dX8_readsTraveller_44 : decode cX8_readsTraveller 44 = .ok (.dup, 1) := by decide +kernel
theorem dX8_readsTraveller_45 : decode cX8_readsTraveller 45 = .ok (.getfield 80, 3) := by decide +kernel
theorem dX8_readsTraveller_48 : decode cX8_readsTraveller 48 = .ok (.iconst 1, 1) := by decide +kernel
theorem dX8_readsTraveller_49 : decode cX8_readsTraveller 49 = .ok (.iadd, 1) := by decide +kernel
theorem dX8_readsTraveller_50 : decode cX8_readsTraveller 50 = .ok (.putfield 80, 3) := by decide +kernel
theorem dX8_readsTraveller_53 : decode cX8_readsTraveller 53 = .ok (.aload_n 0, 1) := by decide +kernel
theorem dX8_readsTraveller_54 : decode cX8_readsTraveller 54 = .ok (.iconst 0, 1) := by decide +kernel
theorem dX8_readsTraveller_55 : decode cX8_readsTraveller 55 = .ok (.aload_n 0, 1) := by decide +kernel
theorem dX8_readsTraveller_56 : decode cX8_readsTraveller 56 = .ok (.getfield 7, 3) := by decide +kernel
theorem dX8_readsTraveller_59 : decode cX8_readsTraveller 59 = .ok (.sipush 1053, 3) := by decide +kernel
theorem dX8_readsTraveller_62 : decode cX8_readsTraveller 62 = .ok (.iaload, 1) := by decide +kernel
theorem dX8_readsTraveller_63 : decode cX8_readsTraveller 63 = .ok (.iconst 1, 1) := by decide +kernel
theorem dX8_readsTraveller_64 : decode cX8_readsTraveller 64 = .ok (.isub, 1) := by decide +kernel
theorem dX8_readsTraveller_65 : decode cX8_readsTraveller 65 = .ok (.invokevirtual 105, 3) := by decide +kernel
theorem dX8_readsTraveller_68 : decode cX8_readsTraveller 68 = .ok (.ifCond .ne 5, 3) := by decide +kernel
theorem dX8_readsTraveller_71 : decode cX8_readsTraveller 71 = .ok (.iconst 0, 1) := by decide +kernel
theorem dX8_readsTraveller_72 : decode cX8_readsTraveller 72 = .ok (.ireturn, 1) := by decide +kernel
theorem dX8_readsTraveller_73 : decode cX8_readsTraveller 73 = .ok (.aload_n 0, 1) := by decide +kernel
theorem dX8_readsTraveller_74 : decode cX8_readsTraveller 74 = .ok (.getfield 7, 3) := by decide +kernel
theorem dX8_readsTraveller_77 : decode cX8_readsTraveller 77 = .ok (.sipush 1062, 3) := by decide +kernel
theorem dX8_readsTraveller_80 : decode cX8_readsTraveller 80 = .ok (.iload_n 1, 1) := by decide +kernel
theorem dX8_readsTraveller_81 : decode cX8_readsTraveller 81 = .ok (.iadd, 1) := by decide +kernel
theorem dX8_readsTraveller_82 : decode cX8_readsTraveller 82 = .ok (.aload_n 0, 1) := by decide +kernel
theorem dX8_readsTraveller_83 : decode cX8_readsTraveller 83 = .ok (.getfield 99, 3) := by decide +kernel
theorem dX8_readsTraveller_86 : decode cX8_readsTraveller 86 = .ok (.iastore, 1) := by decide +kernel
theorem dX8_readsTraveller_87 : decode cX8_readsTraveller 87 = .ok (.aload_n 0, 1) := by decide +kernel
theorem dX8_readsTraveller_88 : decode cX8_readsTraveller 88 = .ok (.bipush 44, 2) := by decide +kernel
theorem dX8_readsTraveller_90 : decode cX8_readsTraveller 90 = .ok (.invokevirtual 102, 3) := by decide +kernel
theorem dX8_readsTraveller_93 : decode cX8_readsTraveller 93 = .ok (.ifCond .eq 12, 3) := by decide +kernel
theorem dX8_readsTraveller_96 : decode cX8_readsTraveller 96 = .ok (.aload_n 0, 1) := by decide +kernel
theorem dX8_readsTraveller_97 : decode cX8_readsTraveller 97 = .ok (.iconst 0, 1) := by decide +kernel
theorem dX8_readsTraveller_98 : decode cX8_readsTraveller 98 = .ok (.iconst 3, 1) := by decide +kernel
theorem dX8_readsTraveller_99 : decode cX8_readsTraveller 99 = .ok (.invokevirtual 105, 3) := by decide +kernel
theorem dX8_readsTraveller_102 : decode cX8_readsTraveller 102 = .ok (.ifCond .ne 5, 3) := by decide +kernel
theorem dX8_readsTraveller_105 : decode cX8_readsTraveller 105 = .ok (.iconst 0, 1) := by decide +kernel
theorem dX8_readsTraveller_106 : decode cX8_readsTraveller 106 = .ok (.ireturn, 1) := by decide +kernel
theorem dX8_readsTraveller_107 : decode cX8_readsTraveller 107 = .ok (.aload_n 0, 1) := by decide +kernel
theorem dX8_readsTraveller_108 : decode cX8_readsTraveller 108 = .ok (.getfield 7, 3) := by decide +kernel
theorem dX8_readsTraveller_111 : decode cX8_readsTraveller 111 = .ok (.sipush 1080, 3) := by decide +kernel
theorem dX8_readsTraveller_114 : decode cX8_readsTraveller 114 = .ok (.iload_n 1, 1) := by decide +kernel
theorem dX8_readsTraveller_115 : decode cX8_readsTraveller 115 = .ok (.iadd, 1) := by decide +kernel
theorem dX8_readsTraveller_116 : decode cX8_readsTraveller 116 = .ok (.aload_n 0, 1) := by decide +kernel
theorem dX8_readsTraveller_117 : decode cX8_readsTraveller 117 = .ok (.getfield 99, 3) := by decide +kernel
theorem dX8_readsTraveller_120 : decode cX8_readsTraveller 120 = .ok (.iastore, 1) := by decide +kernel
theorem dX8_readsTraveller_121 : decode cX8_readsTraveller 121 = .ok (.aload_n 0, 1) := by decide +kernel
theorem dX8_readsTraveller_122 : decode cX8_readsTraveller 122 = .ok (.getfield 7, 3) := by decide +kernel
theorem dX8_readsTraveller_125 : decode cX8_readsTraveller 125 = .ok (.sipush 1054, 3) := by decide +kernel
theorem dX8_readsTraveller_128 : decode cX8_readsTraveller 128 = .ok (.dup2, 1) := by decide +kernel
theorem dX8_readsTraveller_129 : decode cX8_readsTraveller 129 = .ok (.iaload, 1) := by decide +kernel
theorem dX8_readsTraveller_130 : decode cX8_readsTraveller 130 = .ok (.iconst 1, 1) := by decide +kernel
theorem dX8_readsTraveller_131 : decode cX8_readsTraveller 131 = .ok (.iadd, 1) := by decide +kernel
theorem dX8_readsTraveller_132 : decode cX8_readsTraveller 132 = .ok (.iastore, 1) := by decide +kernel
theorem dX8_readsTraveller_133 : decode cX8_readsTraveller 133 = .ok (.aload_n 0, 1) := by decide +kernel
theorem dX8_readsTraveller_134 : decode cX8_readsTraveller 134 = .ok (.bipush 59, 2) := by decide +kernel
theorem dX8_readsTraveller_136 : decode cX8_readsTraveller 136 = .ok (.invokevirtual 102, 3) := by decide +kernel
theorem dX8_readsTraveller_139 : decode cX8_readsTraveller 139 = .ok (.ireturn, 1) := by decide +kernel
theorem dX8_reads_0 : decode cX8_reads 0 = .ok (.iconst 0, 1) := by decide +kernel
theorem dX8_reads_1 : decode cX8_reads 1 = .ok (.istore_n 1, 1) := by decide +kernel
theorem dX8_reads_2 : decode cX8_reads 2 = .ok (.iload_n 1, 1) := by decide +kernel
theorem dX8_reads_3 : decode cX8_reads 3 = .ok (.bipush 39, 2) := by decide +kernel
theorem dX8_reads_5 : decode cX8_reads 5 = .ok (.if_icmp .ge 50, 3) := by decide +kernel
theorem dX8_reads_8 : decode cX8_reads 8 = .ok (.aload_n 0, 1) := by decide +kernel
theorem dX8_reads_9 : decode cX8_reads 9 = .ok (.getfield 7, 3) := by decide +kernel
theorem dX8_reads_12 : decode cX8_reads 12 = .ok (.sipush 1053, 3) := by decide +kernel
theorem dX8_reads_15 : decode cX8_reads 15 = .ok (.iload_n 1, 1) := by decide +kernel
theorem dX8_reads_16 : decode cX8_reads 16 = .ok (.iadd, 1) := by decide +kernel
theorem dX8_reads_17 : decode cX8_reads 17 = .ok (.iload_n 1, 1) := by decide +kernel
theorem dX8_reads_18 : decode cX8_reads 18 = .ok (.i2l, 1) := by decide +kernel
theorem dX8_reads_19 : decode cX8_reads 19 = .ok (.ldc2_w 112, 3) := by decide +kernel
theorem dX8_reads_22 : decode cX8_reads 22 = .ok (.ldc2_w 114, 3) := by decide +kernel
theorem dX8_reads_25 : decode cX8_reads 25 = .ok (.invokestatic 48, 3) := by decide +kernel
theorem dX8_reads_28 : decode cX8_reads 28 = .ok (.ifCond .eq 8, 3) := by decide +kernel
theorem dX8_reads_31 : decode cX8_reads 31 = .ok (.ldc 116, 2) := by decide +kernel
theorem dX8_reads_33 : decode cX8_reads 33 = .ok (.goto 15, 3) := by decide +kernel
theorem dX8_reads_36 : decode cX8_reads 36 = .ok (.iload_n 1, 1) := by decide +kernel
theorem dX8_reads_37 : decode cX8_reads 37 = .ok (.bipush 33, 2) := by decide +kernel
theorem dX8_reads_39 : decode cX8_reads 39 = .ok (.if_icmp .ge 7, 3) := by decide +kernel
theorem dX8_reads_42 : decode cX8_reads 42 = .ok (.iconst 0, 1) := by decide +kernel
theorem dX8_reads_43 : decode cX8_reads 43 = .ok (.goto 5, 3) := by decide +kernel
theorem dX8_reads_46 : decode cX8_reads 46 = .ok (.bipush 20, 2) := by decide +kernel
theorem dX8_reads_48 : decode cX8_reads 48 = .ok (.iastore, 1) := by decide +kernel
theorem dX8_reads_49 : decode cX8_reads 49 = .ok (.iinc 1 1, 3) := by decide +kernel
theorem dX8_reads_52 : decode cX8_reads 52 = .ok (.goto (-50), 3) := by decide +kernel
theorem dX8_reads_55 : decode cX8_reads 55 = .ok (.aload_n 0, 1) := by decide +kernel
theorem dX8_reads_56 : decode cX8_reads 56 = .ok (.iconst 0, 1) := by decide +kernel
theorem dX8_reads_57 : decode cX8_reads 57 = .ok (.putfield 80, 3) := by decide +kernel
theorem dX8_reads_60 : decode cX8_reads 60 = .ok (.aload_n 0, 1) := by decide +kernel
theorem dX8_reads_61 : decode cX8_reads 61 = .ok (.invokevirtual 117, 3) := by decide +kernel
theorem dX8_reads_64 : decode cX8_reads 64 = .ok (.istore_n 1, 1) := by decide +kernel
theorem dX8_reads_65 : decode cX8_reads 65 = .ok (.iload_n 1, 1) := by decide +kernel
theorem dX8_reads_66 : decode cX8_reads 66 = .ok (.ifCond .eq 35, 3) := by decide +kernel
theorem dX8_reads_69 : decode cX8_reads 69 = .ok (.aload_n 0, 1) := by decide +kernel
theorem dX8_reads_70 : decode cX8_reads 70 = .ok (.getfield 80, 3) := by decide +kernel
theorem dX8_reads_73 : decode cX8_reads 73 = .ok (.aload_n 0, 1) := by decide +kernel
theorem dX8_reads_74 : decode cX8_reads 74 = .ok (.getfield 76, 3) := by decide +kernel
theorem dX8_reads_77 : decode cX8_reads 77 = .ok (.if_icmp .eq 18, 3) := by decide +kernel
theorem dX8_reads_80 : decode cX8_reads 80 = .ok (.aload_n 0, 1) := by decide +kernel
theorem dX8_reads_81 : decode cX8_reads 81 = .ok (.getfield 26, 3) := by decide +kernel
theorem dX8_reads_84 : decode cX8_reads 84 = .ok (.aload_n 0, 1) := by decide +kernel
theorem dX8_reads_85 : decode cX8_reads 85 = .ok (.getfield 80, 3) := by decide +kernel
theorem dX8_reads_88 : decode cX8_reads 88 = .ok (.iaload, 1) := by decide +kernel
theorem dX8_reads_89 : decode cX8_reads 89 = .ok (.invokestatic 109, 3) := by decide +kernel
theorem dX8_reads_92 : decode cX8_reads 92 = .ok (.ifCond .ne 9, 3) := by decide +kernel
theorem dX8_reads_95 : decode cX8_reads 95 = .ok (.aload_n 0, 1) := by decide +kernel
theorem dX8_reads_96 : decode cX8_reads 96 = .ok (.iconst 1, 1) := by decide +kernel
theorem dX8_reads_97 : decode cX8_reads 97 = .ok (.invokevirtual 93, 3) := by decide +kernel
theorem dX8_reads_100 : decode cX8_reads 100 = .ok (.ireturn, 1) := by decide +kernel
theorem dX8_reads_101 : decode cX8_reads 101 = .ok (.iload_n 1, 1) := by decide +kernel
theorem dX8_reads_102 : decode cX8_reads 102 = .ok (.ifCond .eq 37, 3) := by decide +kernel
theorem dX8_reads_105 : decode cX8_reads 105 = .ok (.aload_n 0, 1) := by decide +kernel
theorem dX8_reads_106 : decode cX8_reads 106 = .ok (.getfield 80, 3) := by decide +kernel
theorem dX8_reads_109 : decode cX8_reads 109 = .ok (.aload_n 0, 1) := by decide +kernel
theorem dX8_reads_110 : decode cX8_reads 110 = .ok (.getfield 76, 3) := by decide +kernel
theorem dX8_reads_113 : decode cX8_reads 113 = .ok (.if_icmp .ge 26, 3) := by decide +kernel
theorem dX8_reads_116 : decode cX8_reads 116 = .ok (.aload_n 0, 1) := by decide +kernel
theorem dX8_reads_117 : decode cX8_reads 117 = .ok (.getfield 26, 3) := by decide +kernel
theorem dX8_reads_120 : decode cX8_reads 120 = .ok (.aload_n 0, 1) := by decide +kernel
theorem dX8_reads_121 : decode cX8_reads 121 = .ok (.getfield 80, 3) := by decide +kernel
theorem dX8_reads_124 : decode cX8_reads 124 = .ok (.iaload, 1) := by decide +kernel
theorem dX8_reads_125 : decode cX8_reads 125 = .ok (.invokestatic 109, 3) := by decide +kernel
theorem dX8_reads_128 : decode cX8_reads 128 = .ok (.ifCond .le 11, 3) := by decide +kernel
theorem dX8_reads_131 : decode cX8_reads 131 = .ok (.aload_n 0, 1) := by decide +kernel
theorem dX8_reads_132 : decode cX8_reads 132 = .ok (.invokevirtual 121, 3) := by decide +kernel
theorem dX8_reads_135 : decode cX8_reads 135 = .ok (.istore_n 1, 1) := by decide +kernel
theorem dX8_reads_136 : decode cX8_reads 136 = .ok (.goto (-35), 3) := by decide +kernel
theorem dX8_reads_139 : decode cX8_reads 139 = .ok (.iload_n 1, 1) := by decide +kernel
theorem dX8_reads_140 : decode cX8_reads 140 = .ok (.ifCond .eq 26, 3) := by decide +kernel
theorem dX8_reads_143 : decode cX8_reads 143 = .ok (.aload_n 0, 1) := by decide +kernel
theorem dX8_reads_144 : decode cX8_reads 144 = .ok (.getfield 80, 3) := by decide +kernel
theorem dX8_reads_147 : decode cX8_reads 147 = .ok (.aload_n 0, 1) := by decide +kernel
theorem dX8_reads_148 : decode cX8_reads 148 = .ok (.getfield 76, 3) := by decide +kernel
theorem dX8_reads_151 : decode cX8_reads 151 = .ok (.if_icmp .eq 11, 3) := by decide +kernel
theorem dX8_reads_154 : decode cX8_reads 154 = .ok (.aload_n 0, 1) := by decide +kernel
theorem dX8_reads_155 : decode cX8_reads 155 = .ok (.iconst 1, 1) := by decide +kernel
theorem dX8_reads_156 : decode cX8_reads 156 = .ok (.invokevirtual 93, 3) := by decide +kernel
theorem dX8_reads_159 : decode cX8_reads 159 = .ok (.ifCond .eq 7, 3) := by decide +kernel
theorem dX8_reads_162 : decode cX8_reads 162 = .ok (.iconst 1, 1) := by decide +kernel
theorem dX8_reads_163 : decode cX8_reads 163 = .ok (.goto 4, 3) := by decide +kernel
theorem dX8_reads_166 : decode cX8_reads 166 = .ok (.iconst 0, 1) := by decide +kernel
theorem dX8_reads_167 : decode cX8_reads 167 = .ok (.ireturn, 1) := by decide +kernel
theorem dX8_hall_0 : decode cX8_hall 0 = .ok (.aload_n 0, 1) := by decide +kernel
theorem dX8_hall_1 : decode cX8_hall 1 = .ok (.invokevirtual 124, 3) := by decide +kernel
theorem dX8_hall_4 : decode cX8_hall 4 = .ok (.istore_n 1, 1) := by decide +kernel
theorem dX8_hall_5 : decode cX8_hall 5 = .ok (.aload_n 0, 1) := by decide +kernel
theorem dX8_hall_6 : decode cX8_hall 6 = .ok (.iconst 0, 1) := by decide +kernel
theorem dX8_hall_7 : decode cX8_hall 7 = .ok (.putfield 76, 3) := by decide +kernel
theorem dX8_hall_10 : decode cX8_hall 10 = .ok (.iload_n 1, 1) := by decide +kernel
theorem dX8_hall_11 : decode cX8_hall 11 = .ok (.ifCond .ne 19, 3) := by decide +kernel
theorem dX8_hall_14 : decode cX8_hall 14 = .ok (.aload_n 0, 1) := by decide +kernel
theorem dX8_hall_15 : decode cX8_hall 15 = .ok (.aload_n 0, 1) := by decide +kernel
theorem dX8_hall_16 : decode cX8_hall 16 = .ok (.getfield 87, 3) := by decide +kernel
theorem dX8_hall_19 : decode cX8_hall 19 = .ok (.putfield 127, 3) := by decide +kernel
theorem dX8_hall_22 : decode cX8_hall 22 = .ok (.ldc 130, 2) := by decide +kernel
theorem dX8_hall_24 : decode cX8_hall 24 = .ok (.aload_n 0, 1) := by decide +kernel
theorem dX8_hall_25 : decode cX8_hall 25 = .ok (.getfield 80, 3) := by decide +kernel
theorem dX8_hall_28 : decode cX8_hall 28 = .ok (.isub, 1) := by decide +kernel
theorem dX8_hall_29 : decode cX8_hall 29 = .ok (.ireturn, 1) := by decide +kernel
theorem dX8_hall_30 : decode cX8_hall 30 = .ok (.aload_n 0, 1) := by decide +kernel
theorem dX8_hall_31 : decode cX8_hall 31 = .ok (.sipush 1053, 3) := by decide +kernel
theorem dX8_hall_34 : decode cX8_hall 34 = .ok (.iconst 0, 1) := by decide +kernel
theorem dX8_hall_35 : decode cX8_hall 35 = .ok (.invokevirtual 131, 3) := by decide +kernel
theorem dX8_hall_38 : decode cX8_hall 38 = .ok (.aload_n 0, 1) := by decide +kernel
theorem dX8_hall_39 : decode cX8_hall 39 = .ok (.iconst 0, 1) := by decide +kernel
theorem dX8_hall_40 : decode cX8_hall 40 = .ok (.putfield 135, 3) := by decide +kernel
theorem dX8_hall_43 : decode cX8_hall 43 = .ok (.aload_n 0, 1) := by decide +kernel
theorem dX8_hall_44 : decode cX8_hall 44 = .ok (.getfield 7, 3) := by decide +kernel
theorem dX8_hall_47 : decode cX8_hall 47 = .ok (.iconst 1, 1) := by decide +kernel
theorem dX8_hall_48 : decode cX8_hall 48 = .ok (.iaload, 1) := by decide +kernel
theorem dX8_hall_49 : decode cX8_hall 49 = .ok (.ireturn, 1) := by decide +kernel
theorem dX8_fault_0 : decode cX8_fault 0 = .ok (.aload_n 0, 1) := by decide +kernel
theorem dX8_fault_1 : decode cX8_fault 1 = .ok (.getfield 127, 3) := by decide +kernel
theorem dX8_fault_4 : decode cX8_fault 4 = .ok (.ireturn, 1) := by decide +kernel
theorem dX8_copyHall_0 : decode cX8_copyHall 0 = .ok (.iconst 0, 1) := by decide +kernel
theorem dX8_copyHall_1 : decode cX8_copyHall 1 = .ok (.istore_n 3, 1) := by decide +kernel
theorem dX8_copyHall_2 : decode cX8_copyHall 2 = .ok (.iload_n 3, 1) := by decide +kernel
theorem dX8_copyHall_3 : decode cX8_copyHall 3 = .ok (.bipush 39, 2) := by decide +kernel
theorem dX8_copyHall_5 : decode cX8_copyHall 5 = .ok (.if_icmp .ge 25, 3) := by decide +kernel
theorem dX8_copyHall_8 : decode cX8_copyHall 8 = .ok (.aload_n 0, 1) := by decide +kernel
theorem dX8_copyHall_9 : decode cX8_copyHall 9 = .ok (.getfield 7, 3) := by decide +kernel
theorem dX8_copyHall_12 : decode cX8_copyHall 12 = .ok (.iload_n 2, 1) := by decide +kernel
theorem dX8_copyHall_13 : decode cX8_copyHall 13 = .ok (.iload_n 3, 1) := by decide +kernel
theorem dX8_copyHall_14 : decode cX8_copyHall 14 = .ok (.iadd, 1) := by decide +kernel
theorem dX8_copyHall_15 : decode cX8_copyHall 15 = .ok (.aload_n 0, 1) := by decide +kernel
theorem dX8_copyHall_16 : decode cX8_copyHall 16 = .ok (.getfield 7, 3) := by decide +kernel
theorem dX8_copyHall_19 : decode cX8_copyHall 19 = .ok (.iload_n 1, 1) := by decide +kernel
theorem dX8_copyHall_20 : decode cX8_copyHall 20 = .ok (.iload_n 3, 1) := by decide +kernel
theorem dX8_copyHall_21 : decode cX8_copyHall 21 = .ok (.iadd, 1) := by decide +kernel
theorem dX8_copyHall_22 : decode cX8_copyHall 22 = .ok (.iaload, 1) := by decide +kernel
theorem dX8_copyHall_23 : decode cX8_copyHall 23 = .ok (.iastore, 1) := by decide +kernel
theorem dX8_copyHall_24 : decode cX8_copyHall 24 = .ok (.iinc 3 1, 3) := by decide +kernel
theorem dX8_copyHall_27 : decode cX8_copyHall 27 = .ok (.goto (-25), 3) := by decide +kernel
theorem dX8_copyHall_30 : decode cX8_copyHall 30 = .ok (.return_, 1) := by decide +kernel
theorem dX8_isHall_0 : decode cX8_isHall 0 = .ok (.aload_n 0, 1) := by decide +kernel
theorem dX8_isHall_1 : decode cX8_isHall 1 = .ok (.getfield 7, 3) := by decide +kernel
theorem dX8_isHall_4 : decode cX8_isHall 4 = .ok (.iconst 0, 1) := by decide +kernel
theorem dX8_isHall_5 : decode cX8_isHall 5 = .ok (.iaload, 1) := by decide +kernel
theorem dX8_isHall_6 : decode cX8_isHall 6 = .ok (.ifCond .le 7, 3) := by decide +kernel
theorem dX8_isHall_9 : decode cX8_isHall 9 = .ok (.iconst 1, 1) := by decide +kernel
theorem dX8_isHall_10 : decode cX8_isHall 10 = .ok (.goto 4, 3) := by decide +kernel
theorem dX8_isHall_13 : decode cX8_isHall 13 = .ok (.iconst 0, 1) := by decide +kernel
theorem dX8_isHall_14 : decode cX8_isHall 14 = .ok (.ireturn, 1) := by decide +kernel
theorem dX8_isOne_0 : decode cX8_isOne 0 = .ok (.iload_n 1, 1) := by decide +kernel
theorem dX8_isOne_1 : decode cX8_isOne 1 = .ok (.i2l, 1) := by decide +kernel
theorem dX8_isOne_2 : decode cX8_isOne 2 = .ok (.lconst 0, 1) := by decide +kernel
theorem dX8_isOne_3 : decode cX8_isOne 3 = .ok (.aload_n 0, 1) := by decide +kernel
theorem dX8_isOne_4 : decode cX8_isOne 4 = .ok (.getfield 7, 3) := by decide +kernel
theorem dX8_isOne_7 : decode cX8_isOne 7 = .ok (.iconst 1, 1) := by decide +kernel
theorem dX8_isOne_8 : decode cX8_isOne 8 = .ok (.iaload, 1) := by decide +kernel
theorem dX8_isOne_9 : decode cX8_isOne 9 = .ok (.iconst 1, 1) := by decide +kernel
theorem dX8_isOne_10 : decode cX8_isOne 10 = .ok (.isub, 1) := by decide +kernel
theorem dX8_isOne_11 : decode cX8_isOne 11 = .ok (.i2l, 1) := by decide +kernel
theorem dX8_isOne_12 : decode cX8_isOne 12 = .ok (.invokestatic 48, 3) := by decide +kernel
theorem dX8_isOne_15 : decode cX8_isOne 15 = .ok (.ireturn, 1) := by decide +kernel
theorem dX8_isPlace_0 : decode cX8_isPlace 0 = .ok (.iload_n 1, 1) := by decide +kernel
theorem dX8_isPlace_1 : decode cX8_isPlace 1 = .ok (.i2l, 1) := by decide +kernel
theorem dX8_isPlace_2 : decode cX8_isPlace 2 = .ok (.lconst 0, 1) := by decide +kernel
theorem dX8_isPlace_3 : decode cX8_isPlace 3 = .ok (.aload_n 0, 1) := by decide +kernel
theorem dX8_isPlace_4 : decode cX8_isPlace 4 = .ok (.getfield 7, 3) := by decide +kernel
theorem dX8_isPlace_7 : decode cX8_isPlace 7 = .ok (.iconst 0, 1) := by decide +kernel
theorem dX8_isPlace_8 : decode cX8_isPlace 8 = .ok (.iaload, 1) := by decide +kernel
theorem dX8_isPlace_9 : decode cX8_isPlace 9 = .ok (.iconst 1, 1) := by decide +kernel
theorem dX8_isPlace_10 : decode cX8_isPlace 10 = .ok (.isub, 1) := by decide +kernel
theorem dX8_isPlace_11 : decode cX8_isPlace 11 = .ok (.i2l, 1) := by decide +kernel
theorem dX8_isPlace_12 : decode cX8_isPlace 12 = .ok (.invokestatic 48, 3) := by decide +kernel
theorem dX8_isPlace_15 : decode cX8_isPlace 15 = .ok (.ireturn, 1) := by decide +kernel
theorem dX8_waits_0 : decode cX8_waits 0 = .ok (.aload_n 0, 1) := by decide +kernel
theorem dX8_waits_1 : decode cX8_waits 1 = .ok (.getfield 7, 3) := by decide +kernel
theorem dX8_waits_4 : decode cX8_waits 4 = .ok (.iload_n 1, 1) := by decide +kernel
theorem dX8_waits_5 : decode cX8_waits 5 = .ok (.bipush 15, 2) := by decide +kernel
theorem dX8_waits_7 : decode cX8_waits 7 = .ok (.iadd, 1) := by decide +kernel
theorem dX8_waits_8 : decode cX8_waits 8 = .ok (.iload_n 2, 1) := by decide +kernel
theorem dX8_waits_9 : decode cX8_waits 9 = .ok (.iadd, 1) := by decide +kernel
theorem dX8_waits_10 : decode cX8_waits 10 = .ok (.iaload, 1) := by decide +kernel
theorem dX8_waits_11 : decode cX8_waits 11 = .ok (.ldc 116, 2) := by decide +kernel
theorem dX8_waits_13 : decode cX8_waits 13 = .ok (.if_icmp .ne 7, 3) := by decide +kernel
theorem dX8_waits_16 : decode cX8_waits 16 = .ok (.iconst 1, 1) := by decide +kernel
theorem dX8_waits_17 : decode cX8_waits 17 = .ok (.goto 4, 3) := by decide +kernel
theorem dX8_waits_20 : decode cX8_waits 20 = .ok (.iconst 0, 1) := by decide +kernel
theorem dX8_waits_21 : decode cX8_waits 21 = .ok (.ireturn, 1) := by decide +kernel
theorem dX8_bagIn_0 : decode cX8_bagIn 0 = .ok (.iconst 0, 1) := by decide +kernel
theorem dX8_bagIn_1 : decode cX8_bagIn 1 = .ok (.istore_n 3, 1) := by decide +kernel
theorem dX8_bagIn_2 : decode cX8_bagIn 2 = .ok (.iload_n 3, 1) := by decide +kernel
theorem dX8_bagIn_3 : decode cX8_bagIn 3 = .ok (.aload_n 0, 1) := by decide +kernel
theorem dX8_bagIn_4 : decode cX8_bagIn 4 = .ok (.getfield 7, 3) := by decide +kernel
theorem dX8_bagIn_7 : decode cX8_bagIn 7 = .ok (.iload_n 1, 1) := by decide +kernel
theorem dX8_bagIn_8 : decode cX8_bagIn 8 = .ok (.iconst 1, 1) := by decide +kernel
theorem dX8_bagIn_9 : decode cX8_bagIn 9 = .ok (.iadd, 1) := by decide +kernel
theorem dX8_bagIn_10 : decode cX8_bagIn 10 = .ok (.iaload, 1) := by decide +kernel
theorem dX8_bagIn_11 : decode cX8_bagIn 11 = .ok (.if_icmp .ge 26, 3) := by decide +kernel
theorem dX8_bagIn_14 : decode cX8_bagIn 14 = .ok (.aload_n 0, 1) := by decide +kernel
theorem dX8_bagIn_15 : decode cX8_bagIn 15 = .ok (.getfield 7, 3) := by decide +kernel
theorem dX8_bagIn_18 : decode cX8_bagIn 18 = .ok (.iload_n 1, 1) := by decide +kernel
theorem dX8_bagIn_19 : decode cX8_bagIn 19 = .ok (.bipush 33, 2) := by decide +kernel
theorem dX8_bagIn_21 : decode cX8_bagIn 21 = .ok (.iadd, 1) := by decide +kernel
theorem dX8_bagIn_22 : decode cX8_bagIn 22 = .ok (.iload_n 3, 1) := by decide +kernel
theorem dX8_bagIn_23 : decode cX8_bagIn 23 = .ok (.iadd, 1) := by decide +kernel
theorem dX8_bagIn_24 : decode cX8_bagIn 24 = .ok (.iaload, 1) := by decide +kernel
theorem dX8_bagIn_25 : decode cX8_bagIn 25 = .ok (.iload_n 2, 1) := by decide +kernel
theorem dX8_bagIn_26 : decode cX8_bagIn 26 = .ok (.if_icmp .ne 5, 3) := by decide +kernel
theorem dX8_bagIn_29 : decode cX8_bagIn 29 = .ok (.iload_n 3, 1) := by decide +kernel
theorem dX8_bagIn_30 : decode cX8_bagIn 30 = .ok (.ireturn, 1) := by decide +kernel
theorem dX8_bagIn_31 : decode cX8_bagIn 31 = .ok (.iinc 3 1, 3) := by decide +kernel
theorem dX8_bagIn_34 : decode cX8_bagIn 34 = .ok (.goto (-32), 3) := by decide +kernel
theorem dX8_bagIn_37 : decode cX8_bagIn 37 = .ok (.ldc 116, 2) := by decide +kernel
theorem dX8_bagIn_39 : decode cX8_bagIn 39 = .ok (.ireturn, 1) := by decide +kernel
theorem dX8_turns_0 : decode cX8_turns 0 = .ok (.iconst 0, 1) := by decide +kernel
theorem dX8_turns_1 : decode cX8_turns 1 = .ok (.istore_n 3, 1) := by decide +kernel
theorem dX8_turns_2 : decode cX8_turns 2 = .ok (.iload_n 3, 1) := by decide +kernel
theorem dX8_turns_3 : decode cX8_turns 3 = .ok (.aload_n 0, 1) := by decide +kernel
theorem dX8_turns_4 : decode cX8_turns 4 = .ok (.getfield 7, 3) := by decide +kernel
theorem dX8_turns_7 : decode cX8_turns 7 = .ok (.iload_n 1, 1) := by decide +kernel
theorem dX8_turns_8 : decode cX8_turns 8 = .ok (.iconst 1, 1) := by decide +kernel
theorem dX8_turns_9 : decode cX8_turns 9 = .ok (.iadd, 1) := by decide +kernel
theorem dX8_turns_10 : decode cX8_turns 10 = .ok (.iaload, 1) := by decide +kernel
theorem dX8_turns_11 : decode cX8_turns 11 = .ok (.if_icmp .ge 67, 3) := by decide +kernel
theorem dX8_turns_14 : decode cX8_turns 14 = .ok (.aload_n 0, 1) := by decide +kernel
theorem dX8_turns_15 : decode cX8_turns 15 = .ok (.getfield 7, 3) := by decide +kernel
theorem dX8_turns_18 : decode cX8_turns 18 = .ok (.iload_n 1, 1) := by decide +kernel
theorem dX8_turns_19 : decode cX8_turns 19 = .ok (.bipush 33, 2) := by decide +kernel
theorem dX8_turns_21 : decode cX8_turns 21 = .ok (.iadd, 1) := by decide +kernel
theorem dX8_turns_22 : decode cX8_turns 22 = .ok (.iload_n 3, 1) := by decide +kernel
theorem dX8_turns_23 : decode cX8_turns 23 = .ok (.iadd, 1) := by decide +kernel
theorem dX8_turns_24 : decode cX8_turns 24 = .ok (.iaload, 1) := by decide +kernel
theorem dX8_turns_25 : decode cX8_turns 25 = .ok (.istore 4, 2) := by decide +kernel
theorem dX8_turns_27 : decode cX8_turns 27 = .ok (.aload_n 0, 1) := by decide +kernel
theorem dX8_turns_28 : decode cX8_turns 28 = .ok (.getfield 7, 3) := by decide +kernel
theorem dX8_turns_31 : decode cX8_turns 31 = .ok (.iload_n 1, 1) := by decide +kernel
theorem dX8_turns_32 : decode cX8_turns 32 = .ok (.bipush 33, 2) := by decide +kernel
theorem dX8_turns_34 : decode cX8_turns 34 = .ok (.iadd, 1) := by decide +kernel
theorem dX8_turns_35 : decode cX8_turns 35 = .ok (.iload_n 3, 1) := by decide +kernel
theorem dX8_turns_36 : decode cX8_turns 36 = .ok (.iadd, 1) := by decide +kernel
theorem dX8_turns_37 : decode cX8_turns 37 = .ok (.iload 4, 2) := by decide +kernel
theorem dX8_turns_39 : decode cX8_turns 39 = .ok (.bipush 20, 2) := by decide +kernel
theorem dX8_turns_41 : decode cX8_turns 41 = .ok (.if_icmp .ge 28, 3) := by decide +kernel
theorem dX8_turns_44 : decode cX8_turns 44 = .ok (.iload 4, 2) := by decide +kernel
theorem dX8_turns_46 : decode cX8_turns 46 = .ok (.iload_n 2, 1) := by decide +kernel
theorem dX8_turns_47 : decode cX8_turns 47 = .ok (.iadd, 1) := by decide +kernel
theorem dX8_turns_48 : decode cX8_turns 48 = .ok (.aload_n 0, 1) := by decide +kernel
theorem dX8_turns_49 : decode cX8_turns 49 = .ok (.getfield 7, 3) := by decide +kernel
theorem dX8_turns_52 : decode cX8_turns 52 = .ok (.iload_n 1, 1) := by decide +kernel
theorem dX8_turns_53 : decode cX8_turns 53 = .ok (.iconst 0, 1) := by decide +kernel
theorem dX8_turns_54 : decode cX8_turns 54 = .ok (.iadd, 1) := by decide +kernel
theorem dX8_turns_55 : decode cX8_turns 55 = .ok (.iaload, 1) := by decide +kernel
theorem dX8_turns_56 : decode cX8_turns 56 = .ok (.iadd, 1) := by decide +kernel
theorem dX8_turns_57 : decode cX8_turns 57 = .ok (.aload_n 0, 1) := by decide +kernel
theorem dX8_turns_58 : decode cX8_turns 58 = .ok (.getfield 7, 3) := by decide +kernel
theorem dX8_turns_61 : decode cX8_turns 61 = .ok (.iload_n 1, 1) := by decide +kernel
theorem dX8_turns_62 : decode cX8_turns 62 = .ok (.iconst 0, 1) := by decide +kernel
theorem dX8_turns_63 : decode cX8_turns 63 = .ok (.iadd, 1) := by decide +kernel
theorem dX8_turns_64 : decode cX8_turns 64 = .ok (.iaload, 1) := by decide +kernel
theorem dX8_turns_65 : decode cX8_turns 65 = .ok (.irem, 1) := by decide +kernel
theorem dX8_turns_66 : decode cX8_turns 66 = .ok (.goto 5, 3) := by decide +kernel
theorem dX8_turns_69 : decode cX8_turns 69 = .ok (.iload 4, 2) := by decide +kernel
theorem dX8_turns_71 : decode cX8_turns 71 = .ok (.iastore, 1) := by decide +kernel
theorem dX8_turns_72 : decode cX8_turns 72 = .ok (.iinc 3 1, 3) := by decide +kernel
theorem dX8_turns_75 : decode cX8_turns 75 = .ok (.goto (-73), 3) := by decide +kernel
theorem dX8_turns_78 : decode cX8_turns 78 = .ok (.return_, 1) := by decide +kernel
theorem dX8_falls_0 : decode cX8_falls 0 = .ok (.aload_n 0, 1) := by decide +kernel
theorem dX8_falls_1 : decode cX8_falls 1 = .ok (.iload_n 1, 1) := by decide +kernel
theorem dX8_falls_2 : decode cX8_falls 2 = .ok (.iconst 0, 1) := by decide +kernel
theorem dX8_falls_3 : decode cX8_falls 3 = .ok (.invokevirtual 138, 3) := by decide +kernel
theorem dX8_falls_6 : decode cX8_falls 6 = .ok (.ldc 116, 2) := by decide +kernel
theorem dX8_falls_8 : decode cX8_falls 8 = .ok (.if_icmp .ne 7, 3) := by decide +kernel
theorem dX8_falls_11 : decode cX8_falls 11 = .ok (.iconst 1, 1) := by decide +kernel
theorem dX8_falls_12 : decode cX8_falls 12 = .ok (.goto 4, 3) := by decide +kernel
theorem dX8_falls_15 : decode cX8_falls 15 = .ok (.iconst 0, 1) := by decide +kernel
theorem dX8_falls_16 : decode cX8_falls 16 = .ok (.istore_n 2, 1) := by decide +kernel
theorem dX8_falls_17 : decode cX8_falls 17 = .ok (.iconst 0, 1) := by decide +kernel
theorem dX8_falls_18 : decode cX8_falls 18 = .ok (.istore_n 3, 1) := by decide +kernel
theorem dX8_falls_19 : decode cX8_falls 19 = .ok (.iload_n 3, 1) := by decide +kernel
theorem dX8_falls_20 : decode cX8_falls 20 = .ok (.aload_n 0, 1) := by decide +kernel
theorem dX8_falls_21 : decode cX8_falls 21 = .ok (.getfield 7, 3) := by decide +kernel
theorem dX8_falls_24 : decode cX8_falls 24 = .ok (.iload_n 1, 1) := by decide +kernel
theorem dX8_falls_25 : decode cX8_falls 25 = .ok (.iconst 1, 1) := by decide +kernel
theorem dX8_falls_26 : decode cX8_falls 26 = .ok (.iadd, 1) := by decide +kernel
theorem dX8_falls_27 : decode cX8_falls 27 = .ok (.iaload, 1) := by decide +kernel
theorem dX8_falls_28 : decode cX8_falls 28 = .ok (.if_icmp .ge 53, 3) := by decide +kernel
theorem dX8_falls_31 : decode cX8_falls 31 = .ok (.iload_n 2, 1) := by decide +kernel
theorem dX8_falls_32 : decode cX8_falls 32 = .ok (.ifCond .eq 49, 3) := by decide +kernel
theorem dX8_falls_35 : decode cX8_falls 35 = .ok (.aload_n 0, 1) := by decide +kernel
theorem dX8_falls_36 : decode cX8_falls 36 = .ok (.getfield 7, 3) := by decide +kernel
theorem dX8_falls_39 : decode cX8_falls 39 = .ok (.iload_n 1, 1) := by decide +kernel
theorem dX8_falls_40 : decode cX8_falls 40 = .ok (.bipush 33, 2) := by decide +kernel
theorem dX8_falls_42 : decode cX8_falls 42 = .ok (.iadd, 1) := by decide +kernel
theorem dX8_falls_43 : decode cX8_falls 43 = .ok (.aload_n 0, 1) := by decide +kernel
theorem dX8_falls_44 : decode cX8_falls 44 = .ok (.getfield 32, 3) := by decide +kernel
theorem dX8_falls_47 : decode cX8_falls 47 = .ok (.iload_n 3, 1) := by decide +kernel
theorem dX8_falls_48 : decode cX8_falls 48 = .ok (.iaload, 1) := by decide +kernel
theorem dX8_falls_49 : decode cX8_falls 49 = .ok (.iadd, 1) := by decide +kernel
theorem dX8_falls_50 : decode cX8_falls 50 = .ok (.iaload, 1) := by decide +kernel
theorem dX8_falls_51 : decode cX8_falls 51 = .ok (.bipush 20, 2) := by decide +kernel
theorem dX8_falls_53 : decode cX8_falls 53 = .ok (.if_icmp .ne 22, 3) := by decide +kernel
theorem dX8_falls_56 : decode cX8_falls 56 = .ok (.aload_n 0, 1) := by decide +kernel
theorem dX8_falls_57 : decode cX8_falls 57 = .ok (.getfield 7, 3) := by decide +kernel
theorem dX8_falls_60 : decode cX8_falls 60 = .ok (.iload_n 1, 1) := by decide +kernel
theorem dX8_falls_61 : decode cX8_falls 61 = .ok (.bipush 33, 2) := by decide +kernel
theorem dX8_falls_63 : decode cX8_falls 63 = .ok (.iadd, 1) := by decide +kernel
theorem dX8_falls_64 : decode cX8_falls 64 = .ok (.aload_n 0, 1) := by decide +kernel
theorem dX8_falls_65 : decode cX8_falls 65 = .ok (.getfield 32, 3) := by decide +kernel
theorem dX8_falls_68 : decode cX8_falls 68 = .ok (.iload_n 3, 1) := by decide +kernel
theorem dX8_falls_69 : decode cX8_falls 69 = .ok (.iaload, 1) := by decide +kernel
theorem dX8_falls_70 : decode cX8_falls 70 = .ok (.iadd, 1) := by decide +kernel
theorem dX8_falls_71 : decode cX8_falls 71 = .ok (.iconst 0, 1) := by decide +kernel
theorem dX8_falls_72 : decode cX8_falls 72 = .ok (.iastore, 1) := by decide +kernel
theorem dX8_falls_73 : decode cX8_falls 73 = .ok (.iconst 0, 1) := by decide +kernel
theorem dX8_falls_74 : decode cX8_falls 74 = .ok (.istore_n 2, 1) := by decide +kernel
theorem dX8_falls_75 : decode cX8_falls 75 = .ok (.iinc 3 1, 3) := by decide +kernel
theorem dX8_falls_78 : decode cX8_falls 78 = .ok (.goto (-59), 3) := by decide +kernel
theorem dX8_falls_81 : decode cX8_falls 81 = .ok (.return_, 1) := by decide +kernel
theorem dX8_isSeen_0 : decode cX8_isSeen 0 = .ok (.iconst 0, 1) := by decide +kernel
theorem dX8_isSeen_1 : decode cX8_isSeen 1 = .ok (.istore_n 3, 1) := by decide +kernel
theorem dX8_isSeen_2 : decode cX8_isSeen 2 = .ok (.aload_n 0, 1) := by decide +kernel
theorem dX8_isSeen_3 : decode cX8_isSeen 3 = .ok (.getfield 7, 3) := by decide +kernel
theorem dX8_isSeen_6 : decode cX8_isSeen 6 = .ok (.iload_n 1, 1) := by decide +kernel
theorem dX8_isSeen_7 : decode cX8_isSeen 7 = .ok (.iconst 0, 1) := by decide +kernel
theorem dX8_isSeen_8 : decode cX8_isSeen 8 = .ok (.iadd, 1) := by decide +kernel
theorem dX8_isSeen_9 : decode cX8_isSeen 9 = .ok (.iaload, 1) := by decide +kernel
theorem dX8_isSeen_10 : decode cX8_isSeen 10 = .ok (.istore 4, 2) := by decide +kernel
theorem dX8_isSeen_12 : decode cX8_isSeen 12 = .ok (.iconst 0, 1) := by decide +kernel
theorem dX8_isSeen_13 : decode cX8_isSeen 13 = .ok (.istore 5, 2) := by decide +kernel
theorem dX8_isSeen_15 : decode cX8_isSeen 15 = .ok (.iload 5, 2) := by decide +kernel
theorem dX8_isSeen_17 : decode cX8_isSeen 17 = .ok (.aload_n 0, 1) := by decide +kernel
theorem dX8_isSeen_18 : decode cX8_isSeen 18 = .ok (.getfield 7, 3) := by decide +kernel
theorem dX8_isSeen_21 : decode cX8_isSeen 21 = .ok (.iload_n 1, 1) := by decide +kernel
theorem dX8_isSeen_22 : decode cX8_isSeen 22 = .ok (.iconst 1, 1) := by decide +kernel
theorem dX8_isSeen_23 : decode cX8_isSeen 23 = .ok (.iadd, 1) := by decide +kernel
theorem dX8_isSeen_24 : decode cX8_isSeen 24 = .ok (.iaload, 1) := by decide +kernel
theorem dX8_isSeen_25 : decode cX8_isSeen 25 = .ok (.if_icmp .ge 82, 3) := by decide +kernel
theorem dX8_isSeen_28 : decode cX8_isSeen 28 = .ok (.aload_n 0, 1) := by decide +kernel
theorem dX8_isSeen_29 : decode cX8_isSeen 29 = .ok (.getfield 7, 3) := by decide +kernel
theorem dX8_isSeen_32 : decode cX8_isSeen 32 = .ok (.iload_n 1, 1) := by decide +kernel
theorem dX8_isSeen_33 : decode cX8_isSeen 33 = .ok (.bipush 9, 2) := by decide +kernel
theorem dX8_isSeen_35 : decode cX8_isSeen 35 = .ok (.iadd, 1) := by decide +kernel
theorem dX8_isSeen_36 : decode cX8_isSeen 36 = .ok (.iload 5, 2) := by decide +kernel
theorem dX8_isSeen_38 : decode cX8_isSeen 38 = .ok (.iadd, 1) := by decide +kernel
theorem dX8_isSeen_39 : decode cX8_isSeen 39 = .ok (.iaload, 1) := by decide +kernel
theorem dX8_isSeen_40 : decode cX8_isSeen 40 = .ok (.aload_n 0, 1) := by decide +kernel
theorem dX8_isSeen_41 : decode cX8_isSeen 41 = .ok (.getfield 7, 3) := by decide +kernel
theorem dX8_isSeen_44 : decode cX8_isSeen 44 = .ok (.iload_n 1, 1) := by decide +kernel
theorem dX8_isSeen_45 : decode cX8_isSeen 45 = .ok (.bipush 9, 2) := by decide +kernel
theorem dX8_isSeen_47 : decode cX8_isSeen 47 = .ok (.iadd, 1) := by decide +kernel
theorem dX8_isSeen_48 : decode cX8_isSeen 48 = .ok (.iload_n 2, 1) := by decide +kernel
theorem dX8_isSeen_49 : decode cX8_isSeen 49 = .ok (.iadd, 1) := by decide +kernel
theorem dX8_isSeen_50 : decode cX8_isSeen 50 = .ok (.iaload, 1) := by decide +kernel
theorem dX8_isSeen_51 : decode cX8_isSeen 51 = .ok (.isub, 1) := by decide +kernel
theorem dX8_isSeen_52 : decode cX8_isSeen 52 = .ok (.iload 4, 2) := by decide +kernel
theorem dX8_isSeen_54 : decode cX8_isSeen 54 = .ok (.iadd, 1) := by decide +kernel
theorem dX8_isSeen_55 : decode cX8_isSeen 55 = .ok (.iload 4, 2) := by decide +kernel
theorem dX8_isSeen_57 : decode cX8_isSeen 57 = .ok (.irem, 1) := by decide +kernel
theorem dX8_isSeen_58 : decode cX8_isSeen 58 = .ok (.istore 6, 2) := by decide +kernel
theorem dX8_isSeen_60 : decode cX8_isSeen 60 = .ok (.iload_n 3, 1) := by decide +kernel
theorem dX8_isSeen_61 : decode cX8_isSeen 61 = .ok (.ifCond .ne 34, 3) := by decide +kernel
theorem dX8_isSeen_64 : decode cX8_isSeen 64 = .ok (.iload 5, 2) := by decide +kernel
theorem dX8_isSeen_66 : decode cX8_isSeen 66 = .ok (.iload_n 2, 1) := by decide +kernel
theorem dX8_isSeen_67 : decode cX8_isSeen 67 = .ok (.if_icmp .eq 32, 3) := by decide +kernel
theorem dX8_isSeen_70 : decode cX8_isSeen 70 = .ok (.aload_n 0, 1) := by decide +kernel
theorem dX8_isSeen_71 : decode cX8_isSeen 71 = .ok (.iload_n 1, 1) := by decide +kernel
theorem dX8_isSeen_72 : decode cX8_isSeen 72 = .ok (.iload 5, 2) := by decide +kernel
theorem dX8_isSeen_74 : decode cX8_isSeen 74 = .ok (.invokevirtual 141, 3) := by decide +kernel
theorem dX8_isSeen_77 : decode cX8_isSeen 77 = .ok (.ifCond .eq 22, 3) := by decide +kernel
theorem dX8_isSeen_80 : decode cX8_isSeen 80 = .ok (.iload 6, 2) := by decide +kernel
theorem dX8_isSeen_82 : decode cX8_isSeen 82 = .ok (.iconst 2, 1) := by decide +kernel
theorem dX8_isSeen_83 : decode cX8_isSeen 83 = .ok (.if_icmp .lt 12, 3) := by decide +kernel
theorem dX8_isSeen_86 : decode cX8_isSeen 86 = .ok (.iload 6, 2) := by decide +kernel
theorem dX8_isSeen_88 : decode cX8_isSeen 88 = .ok (.iload 4, 2) := by decide +kernel
theorem dX8_isSeen_90 : decode cX8_isSeen 90 = .ok (.iconst 1, 1) := by decide +kernel
theorem dX8_isSeen_91 : decode cX8_isSeen 91 = .ok (.isub, 1) := by decide +kernel
theorem dX8_isSeen_92 : decode cX8_isSeen 92 = .ok (.if_icmp .ne 7, 3) := by decide +kernel
theorem dX8_isSeen_95 : decode cX8_isSeen 95 = .ok (.iconst 1, 1) := by decide +kernel
theorem dX8_isSeen_96 : decode cX8_isSeen 96 = .ok (.goto 4, 3) := by decide +kernel
theorem dX8_isSeen_99 : decode cX8_isSeen 99 = .ok (.iconst 0, 1) := by decide +kernel
theorem dX8_isSeen_100 : decode cX8_isSeen 100 = .ok (.istore_n 3, 1) := by decide +kernel
theorem dX8_isSeen_101 : decode cX8_isSeen 101 = .ok (.iinc 5 1, 3) := by decide +kernel
theorem dX8_isSeen_104 : decode cX8_isSeen 104 = .ok (.goto (-89), 3) := by decide +kernel
theorem dX8_isSeen_107 : decode cX8_isSeen 107 = .ok (.iload_n 3, 1) := by decide +kernel
theorem dX8_isSeen_108 : decode cX8_isSeen 108 = .ok (.ireturn, 1) := by decide +kernel
theorem dX8_takes_0 : decode cX8_takes 0 = .ok (.aload_n 0, 1) := by decide +kernel
theorem dX8_takes_1 : decode cX8_takes 1 = .ok (.getfield 7, 3) := by decide +kernel
theorem dX8_takes_4 : decode cX8_takes 4 = .ok (.iload_n 1, 1) := by decide +kernel
theorem dX8_takes_5 : decode cX8_takes 5 = .ok (.iconst 3, 1) := by decide +kernel
theorem dX8_takes_6 : decode cX8_takes 6 = .ok (.iadd, 1) := by decide +kernel
theorem dX8_takes_7 : decode cX8_takes 7 = .ok (.iload_n 2, 1) := by decide +kernel
theorem dX8_takes_8 : decode cX8_takes 8 = .ok (.iadd, 1) := by decide +kernel
theorem dX8_takes_9 : decode cX8_takes 9 = .ok (.iaload, 1) := by decide +kernel
theorem dX8_takes_10 : decode cX8_takes 10 = .ok (.tableswitch 118 1 4 #[30, 41, 61, 92], 30) := by decide +kernel
theorem dX8_takes_40 : decode cX8_takes 40 = .ok (.iload_n 3, 1) := by decide +kernel
theorem dX8_takes_41 : decode cX8_takes 41 = .ok (.iload_n 2, 1) := by decide +kernel
theorem dX8_takes_42 : decode cX8_takes 42 = .ok (.if_icmp .ne 7, 3) := by decide +kernel
theorem dX8_takes_45 : decode cX8_takes 45 = .ok (.iconst 1, 1) := by decide +kernel
theorem dX8_takes_46 : decode cX8_takes 46 = .ok (.goto 4, 3) := by decide +kernel
theorem dX8_takes_49 : decode cX8_takes 49 = .ok (.iconst 0, 1) := by decide +kernel
theorem dX8_takes_50 : decode cX8_takes 50 = .ok (.ireturn, 1) := by decide +kernel
theorem dX8_takes_51 : decode cX8_takes 51 = .ok (.iload_n 3, 1) := by decide +kernel
theorem dX8_takes_52 : decode cX8_takes 52 = .ok (.iload_n 2, 1) := by decide +kernel
theorem dX8_takes_53 : decode cX8_takes 53 = .ok (.if_icmp .ne 16, 3) := by decide +kernel
theorem dX8_takes_56 : decode cX8_takes 56 = .ok (.aload_n 0, 1) := by decide +kernel
theorem dX8_takes_57 : decode cX8_takes 57 = .ok (.iload_n 1, 1) := by decide +kernel
theorem dX8_takes_58 : decode cX8_takes 58 = .ok (.iload_n 2, 1) := by decide +kernel
theorem dX8_takes_59 : decode cX8_takes 59 = .ok (.invokevirtual 144, 3) := by decide +kernel
theorem dX8_takes_62 : decode cX8_takes 62 = .ok (.ifCond .ne 7, 3) := by decide +kernel
theorem dX8_takes_65 : decode cX8_takes 65 = .ok (.iconst 1, 1) := by decide +kernel
theorem dX8_takes_66 : decode cX8_takes 66 = .ok (.goto 4, 3) := by decide +kernel
theorem dX8_takes_69 : decode cX8_takes 69 = .ok (.iconst 0, 1) := by decide +kernel
theorem dX8_takes_70 : decode cX8_takes 70 = .ok (.ireturn, 1) := by decide +kernel
theorem dX8_takes_71 : decode cX8_takes 71 = .ok (.aload_n 0, 1) := by decide +kernel
theorem dX8_takes_72 : decode cX8_takes 72 = .ok (.getfield 7, 3) := by decide +kernel
theorem dX8_takes_75 : decode cX8_takes 75 = .ok (.iload_n 1, 1) := by decide +kernel
theorem dX8_takes_76 : decode cX8_takes 76 = .ok (.bipush 27, 2) := by decide +kernel
theorem dX8_takes_78 : decode cX8_takes 78 = .ok (.iadd, 1) := by decide +kernel
theorem dX8_takes_79 : decode cX8_takes 79 = .ok (.iload_n 3, 1) := by decide +kernel
theorem dX8_takes_80 : decode cX8_takes 80 = .ok (.iadd, 1) := by decide +kernel
theorem dX8_takes_81 : decode cX8_takes 81 = .ok (.iaload, 1) := by decide +kernel
theorem dX8_takes_82 : decode cX8_takes 82 = .ok (.aload_n 0, 1) := by decide +kernel
theorem dX8_takes_83 : decode cX8_takes 83 = .ok (.getfield 7, 3) := by decide +kernel
theorem dX8_takes_86 : decode cX8_takes 86 = .ok (.iload_n 1, 1) := by decide +kernel
theorem dX8_takes_87 : decode cX8_takes 87 = .ok (.bipush 27, 2) := by decide +kernel
theorem dX8_takes_89 : decode cX8_takes 89 = .ok (.iadd, 1) := by decide +kernel
theorem dX8_takes_90 : decode cX8_takes 90 = .ok (.iload_n 2, 1) := by decide +kernel
theorem dX8_takes_91 : decode cX8_takes 91 = .ok (.iadd, 1) := by decide +kernel
theorem dX8_takes_92 : decode cX8_takes 92 = .ok (.iaload, 1) := by decide +kernel
theorem dX8_takes_93 : decode cX8_takes 93 = .ok (.if_icmp .ne 7, 3) := by decide +kernel
theorem dX8_takes_96 : decode cX8_takes 96 = .ok (.iconst 1, 1) := by decide +kernel
theorem dX8_takes_97 : decode cX8_takes 97 = .ok (.goto 4, 3) := by decide +kernel
theorem dX8_takes_100 : decode cX8_takes 100 = .ok (.iconst 0, 1) := by decide +kernel
theorem dX8_takes_101 : decode cX8_takes 101 = .ok (.ireturn, 1) := by decide +kernel
theorem dX8_takes_102 : decode cX8_takes 102 = .ok (.iload_n 3, 1) := by decide +kernel
theorem dX8_takes_103 : decode cX8_takes 103 = .ok (.iload_n 2, 1) := by decide +kernel
theorem dX8_takes_104 : decode cX8_takes 104 = .ok (.if_icmp .ne 22, 3) := by decide +kernel
theorem dX8_takes_107 : decode cX8_takes 107 = .ok (.aload_n 0, 1) := by decide +kernel
theorem dX8_takes_108 : decode cX8_takes 108 = .ok (.getfield 7, 3) := by decide +kernel
theorem dX8_takes_111 : decode cX8_takes 111 = .ok (.iload_n 1, 1) := by decide +kernel
theorem dX8_takes_112 : decode cX8_takes 112 = .ok (.bipush 21, 2) := by decide +kernel
theorem dX8_takes_114 : decode cX8_takes 114 = .ok (.iadd, 1) := by decide +kernel
theorem dX8_takes_115 : decode cX8_takes 115 = .ok (.iload_n 2, 1) := by decide +kernel
theorem dX8_takes_116 : decode cX8_takes 116 = .ok (.iadd, 1) := by decide +kernel
theorem dX8_takes_117 : decode cX8_takes 117 = .ok (.iaload, 1) := by decide +kernel
theorem dX8_takes_118 : decode cX8_takes 118 = .ok (.iconst 1, 1) := by decide +kernel
theorem dX8_takes_119 : decode cX8_takes 119 = .ok (.if_icmp .le 7, 3) := by decide +kernel
theorem dX8_takes_122 : decode cX8_takes 122 = .ok (.iconst 1, 1) := by decide +kernel
theorem dX8_takes_123 : decode cX8_takes 123 = .ok (.goto 4, 3) := by decide +kernel
theorem dX8_takes_126 : decode cX8_takes 126 = .ok (.iconst 0, 1) := by decide +kernel
theorem dX8_takes_127 : decode cX8_takes 127 = .ok (.ireturn, 1) := by decide +kernel
theorem dX8_takes_128 : decode cX8_takes 128 = .ok (.iload_n 3, 1) := by decide +kernel
theorem dX8_takes_129 : decode cX8_takes 129 = .ok (.iload_n 2, 1) := by decide +kernel
theorem dX8_takes_130 : decode cX8_takes 130 = .ok (.if_icmp .ne 22, 3) := by decide +kernel
theorem dX8_takes_133 : decode cX8_takes 133 = .ok (.aload_n 0, 1) := by decide +kernel
theorem dX8_takes_134 : decode cX8_takes 134 = .ok (.getfield 7, 3) := by decide +kernel
theorem dX8_takes_137 : decode cX8_takes 137 = .ok (.iload_n 1, 1) := by decide +kernel
theorem dX8_takes_138 : decode cX8_takes 138 = .ok (.bipush 21, 2) := by decide +kernel
theorem dX8_takes_140 : decode cX8_takes 140 = .ok (.iadd, 1) := by decide +kernel
theorem dX8_takes_141 : decode cX8_takes 141 = .ok (.iload_n 2, 1) := by decide +kernel
theorem dX8_takes_142 : decode cX8_takes 142 = .ok (.iadd, 1) := by decide +kernel
theorem dX8_takes_143 : decode cX8_takes 143 = .ok (.iaload, 1) := by decide +kernel
theorem dX8_takes_144 : decode cX8_takes 144 = .ok (.iconst 2, 1) := by decide +kernel
theorem dX8_takes_145 : decode cX8_takes 145 = .ok (.if_icmp .le 7, 3) := by decide +kernel
theorem dX8_takes_148 : decode cX8_takes 148 = .ok (.iconst 1, 1) := by decide +kernel
theorem dX8_takes_149 : decode cX8_takes 149 = .ok (.goto 4, 3) := by decide +kernel
theorem dX8_takes_152 : decode cX8_takes 152 = .ok (.iconst 0, 1) := by decide +kernel
theorem dX8_takes_153 : decode cX8_takes 153 = .ok (.ireturn, 1) := by decide +kernel
theorem dX8_looks_0 : decode cX8_looks 0 = .ok (.aload_n 0, 1) := by decide +kernel
theorem dX8_looks_1 : decode cX8_looks 1 = .ok (.iload_n 1, 1) := by decide +kernel
theorem dX8_looks_2 : decode cX8_looks 2 = .ok (.aload_n 0, 1) := by decide +kernel
theorem dX8_looks_3 : decode cX8_looks 3 = .ok (.getfield 7, 3) := by decide +kernel
theorem dX8_looks_6 : decode cX8_looks 6 = .ok (.iload_n 1, 1) := by decide +kernel
theorem dX8_looks_7 : decode cX8_looks 7 = .ok (.bipush 9, 2) := by decide +kernel
theorem dX8_looks_9 : decode cX8_looks 9 = .ok (.iadd, 1) := by decide +kernel
theorem dX8_looks_10 : decode cX8_looks 10 = .ok (.iload_n 2, 1) := by decide +kernel
theorem dX8_looks_11 : decode cX8_looks 11 = .ok (.iadd, 1) := by decide +kernel
theorem dX8_looks_12 : decode cX8_looks 12 = .ok (.iaload, 1) := by decide +kernel
theorem dX8_looks_13 : decode cX8_looks 13 = .ok (.invokevirtual 138, 3) := by decide +kernel
theorem dX8_looks_16 : decode cX8_looks 16 = .ok (.istore_n 3, 1) := by decide +kernel
theorem dX8_looks_17 : decode cX8_looks 17 = .ok (.iload_n 3, 1) := by decide +kernel
theorem dX8_looks_18 : decode cX8_looks 18 = .ok (.ldc 116, 2) := by decide +kernel
theorem dX8_looks_20 : decode cX8_looks 20 = .ok (.if_icmp .eq 14, 3) := by decide +kernel
theorem dX8_looks_23 : decode cX8_looks 23 = .ok (.aload_n 0, 1) := by decide +kernel
theorem dX8_looks_24 : decode cX8_looks 24 = .ok (.getfield 147, 3) := by decide +kernel
theorem dX8_looks_27 : decode cX8_looks 27 = .ok (.iload_n 2, 1) := by decide +kernel
theorem dX8_looks_28 : decode cX8_looks 28 = .ok (.invokestatic 150, 3) := by decide +kernel
theorem dX8_looks_31 : decode cX8_looks 31 = .ok (.ifCond .eq 4, 3) := by decide +kernel
theorem dX8_looks_34 : decode cX8_looks 34 = .ok (.return_, 1) := by decide +kernel
theorem dX8_looks_35 : decode cX8_looks 35 = .ok (.aload_n 0, 1) := by decide +kernel
theorem dX8_looks_36 : decode cX8_looks 36 = .ok (.getfield 7, 3) := by decide +kernel
theorem dX8_looks_39 : decode cX8_looks 39 = .ok (.iload_n 1, 1) := by decide +kernel
theorem dX8_looks_40 : decode cX8_looks 40 = .ok (.bipush 21, 2) := by decide +kernel
theorem dX8_looks_42 : decode cX8_looks 42 = .ok (.iadd, 1) := by decide +kernel
theorem dX8_looks_43 : decode cX8_looks 43 = .ok (.iload_n 2, 1) := by decide +kernel
theorem dX8_looks_44 : decode cX8_looks 44 = .ok (.iadd, 1) := by decide +kernel
theorem dX8_looks_45 : decode cX8_looks 45 = .ok (.dup2, 1) := by decide +kernel
theorem dX8_looks_46 : decode cX8_looks 46 = .ok (.iaload, 1) := by decide +kernel
theorem dX8_looks_47 : decode cX8_looks 47 = .ok (.iload_n 3, 1) := by decide +kernel
theorem dX8_looks_48 : decode cX8_looks 48 = .ok (.iload_n 2, 1) := by decide +kernel
theorem dX8_looks_49 : decode cX8_looks 49 = .ok (.if_icmp .ne 23, 3) := by decide +kernel
theorem dX8_looks_52 : decode cX8_looks 52 = .ok (.aload_n 0, 1) := by decide +kernel
theorem dX8_looks_53 : decode cX8_looks 53 = .ok (.getfield 7, 3) := by decide +kernel
theorem dX8_looks_56 : decode cX8_looks 56 = .ok (.iload_n 1, 1) := by decide +kernel
theorem dX8_looks_57 : decode cX8_looks 57 = .ok (.bipush 21, 2) := by decide +kernel
theorem dX8_looks_59 : decode cX8_looks 59 = .ok (.iadd, 1) := by decide +kernel
theorem dX8_looks_60 : decode cX8_looks 60 = .ok (.iload_n 2, 1) := by decide +kernel
theorem dX8_looks_61 : decode cX8_looks 61 = .ok (.iadd, 1) := by decide +kernel
theorem dX8_looks_62 : decode cX8_looks 62 = .ok (.iaload, 1) := by decide +kernel
theorem dX8_looks_63 : decode cX8_looks 63 = .ok (.bipush 99, 2) := by decide +kernel
theorem dX8_looks_65 : decode cX8_looks 65 = .ok (.if_icmp .ge 7, 3) := by decide +kernel
theorem dX8_looks_68 : decode cX8_looks 68 = .ok (.iconst 1, 1) := by decide +kernel
theorem dX8_looks_69 : decode cX8_looks 69 = .ok (.goto 4, 3) := by decide +kernel
theorem dX8_looks_72 : decode cX8_looks 72 = .ok (.iconst 0, 1) := by decide +kernel
theorem dX8_looks_73 : decode cX8_looks 73 = .ok (.iadd, 1) := by decide +kernel
theorem dX8_looks_74 : decode cX8_looks 74 = .ok (.iastore, 1) := by decide +kernel
theorem dX8_looks_75 : decode cX8_looks 75 = .ok (.aload_n 0, 1) := by decide +kernel
theorem dX8_looks_76 : decode cX8_looks 76 = .ok (.iload_n 1, 1) := by decide +kernel
theorem dX8_looks_77 : decode cX8_looks 77 = .ok (.iload_n 2, 1) := by decide +kernel
theorem dX8_looks_78 : decode cX8_looks 78 = .ok (.iload_n 3, 1) := by decide +kernel
theorem dX8_looks_79 : decode cX8_looks 79 = .ok (.invokevirtual 153, 3) := by decide +kernel
theorem dX8_looks_82 : decode cX8_looks 82 = .ok (.ifCond .eq 59, 3) := by decide +kernel
theorem dX8_looks_85 : decode cX8_looks 85 = .ok (.aload_n 0, 1) := by decide +kernel
theorem dX8_looks_86 : decode cX8_looks 86 = .ok (.getfield 7, 3) := by decide +kernel
theorem dX8_looks_89 : decode cX8_looks 89 = .ok (.iload_n 1, 1) := by decide +kernel
theorem dX8_looks_90 : decode cX8_looks 90 = .ok (.bipush 15, 2) := by decide +kernel
theorem dX8_looks_92 : decode cX8_looks 92 = .ok (.iadd, 1) := by decide +kernel
theorem dX8_looks_93 : decode cX8_looks 93 = .ok (.iload_n 2, 1) := by decide +kernel
theorem dX8_looks_94 : decode cX8_looks 94 = .ok (.iadd, 1) := by decide +kernel
theorem dX8_looks_95 : decode cX8_looks 95 = .ok (.iload_n 3, 1) := by decide +kernel
theorem dX8_looks_96 : decode cX8_looks 96 = .ok (.iastore, 1) := by decide +kernel
theorem dX8_looks_97 : decode cX8_looks 97 = .ok (.aload_n 0, 1) := by decide +kernel
theorem dX8_looks_98 : decode cX8_looks 98 = .ok (.getfield 7, 3) := by decide +kernel
theorem dX8_looks_101 : decode cX8_looks 101 = .ok (.iload_n 1, 1) := by decide +kernel
theorem dX8_looks_102 : decode cX8_looks 102 = .ok (.bipush 33, 2) := by decide +kernel
theorem dX8_looks_104 : decode cX8_looks 104 = .ok (.iadd, 1) := by decide +kernel
theorem dX8_looks_105 : decode cX8_looks 105 = .ok (.iload_n 3, 1) := by decide +kernel
theorem dX8_looks_106 : decode cX8_looks 106 = .ok (.iadd, 1) := by decide +kernel
theorem dX8_looks_107 : decode cX8_looks 107 = .ok (.bipush 30, 2) := by decide +kernel
theorem dX8_looks_109 : decode cX8_looks 109 = .ok (.iload_n 2, 1) := by decide +kernel
theorem dX8_looks_110 : decode cX8_looks 110 = .ok (.iadd, 1) := by decide +kernel
theorem dX8_looks_111 : decode cX8_looks 111 = .ok (.iastore, 1) := by decide +kernel
theorem dX8_looks_112 : decode cX8_looks 112 = .ok (.aload_n 0, 1) := by decide +kernel
theorem dX8_looks_113 : decode cX8_looks 113 = .ok (.dup, 1) := by decide +kernel
theorem dX8_looks_114 : decode cX8_looks 114 = .ok (.getfield 156, 3) := by decide +kernel
theorem dX8_looks_117 : decode cX8_looks 117 = .ok (.iconst 1, 1) := by decide +kernel
theorem dX8_looks_118 : decode cX8_looks 118 = .ok (.iadd, 1) := by decide +kernel
theorem dX8_looks_119 : decode cX8_looks 119 = .ok (.putfield 156, 3) := by decide +kernel
theorem dX8_looks_122 : decode cX8_looks 122 = .ok (.aload_n 0, 1) := by decide +kernel
theorem dX8_looks_123 : decode cX8_looks 123 = .ok (.dup, 1) := by decide +kernel
theorem dX8_looks_124 : decode cX8_looks 124 = .ok (.getfield 159, 3) := by decide +kernel
theorem dX8_looks_127 : decode cX8_looks 127 = .ok (.iload_n 3, 1) := by decide +kernel
theorem dX8_looks_128 : decode cX8_looks 128 = .ok (.iload_n 2, 1) := by decide +kernel
theorem dX8_looks_129 : decode cX8_looks 129 = .ok (.if_icmp .ne 7, 3) := by decide +kernel
theorem dX8_looks_132 : decode cX8_looks 132 = .ok (.iconst 0, 1) := by decide +kernel
theorem dX8_looks_133 : decode cX8_looks 133 = .ok (.goto 4, 3) := by decide +kernel
theorem dX8_looks_136 : decode cX8_looks 136 = .ok (.iconst 1, 1) := by decide +kernel
theorem dX8_looks_137 : decode cX8_looks 137 = .ok (.iadd, 1) := by decide +kernel
theorem dX8_looks_138 : decode cX8_looks 138 = .ok (.putfield 159, 3) := by decide +kernel
theorem dX8_looks_141 : decode cX8_looks 141 = .ok (.return_, 1) := by decide +kernel
theorem dX8_ticksOf_0 : decode cX8_ticksOf 0 = .ok (.iconst 0, 1) := by decide +kernel
theorem dX8_ticksOf_1 : decode cX8_ticksOf 1 = .ok (.istore_n 3, 1) := by decide +kernel
theorem dX8_ticksOf_2 : decode cX8_ticksOf 2 = .ok (.iload_n 3, 1) := by decide +kernel
theorem dX8_ticksOf_3 : decode cX8_ticksOf 3 = .ok (.iload_n 2, 1) := by decide +kernel
theorem dX8_ticksOf_4 : decode cX8_ticksOf 4 = .ok (.if_icmp .ge 71, 3) := by decide +kernel
theorem dX8_ticksOf_7 : decode cX8_ticksOf 7 = .ok (.aload_n 0, 1) := by decide +kernel
theorem dX8_ticksOf_8 : decode cX8_ticksOf 8 = .ok (.iload_n 1, 1) := by decide +kernel
theorem dX8_ticksOf_9 : decode cX8_ticksOf 9 = .ok (.iconst 1, 1) := by decide +kernel
theorem dX8_ticksOf_10 : decode cX8_ticksOf 10 = .ok (.invokevirtual 162, 3) := by decide +kernel
theorem dX8_ticksOf_13 : decode cX8_ticksOf 13 = .ok (.aload_n 0, 1) := by decide +kernel
theorem dX8_ticksOf_14 : decode cX8_ticksOf 14 = .ok (.iload_n 1, 1) := by decide +kernel
theorem dX8_ticksOf_15 : decode cX8_ticksOf 15 = .ok (.invokevirtual 165, 3) := by decide +kernel
theorem dX8_ticksOf_18 : decode cX8_ticksOf 18 = .ok (.iconst 0, 1) := by decide +kernel
theorem dX8_ticksOf_19 : decode cX8_ticksOf 19 = .ok (.istore 4, 2) := by decide +kernel
theorem dX8_ticksOf_21 : decode cX8_ticksOf 21 = .ok (.iload 4, 2) := by decide +kernel
theorem dX8_ticksOf_23 : decode cX8_ticksOf 23 = .ok (.aload_n 0, 1) := by decide +kernel
theorem dX8_ticksOf_24 : decode cX8_ticksOf 24 = .ok (.getfield 7, 3) := by decide +kernel
theorem dX8_ticksOf_27 : decode cX8_ticksOf 27 = .ok (.iload_n 1, 1) := by decide +kernel
theorem dX8_ticksOf_28 : decode cX8_ticksOf 28 = .ok (.iconst 1, 1) := by decide +kernel
theorem dX8_ticksOf_29 : decode cX8_ticksOf 29 = .ok (.iadd, 1) := by decide +kernel
theorem dX8_ticksOf_30 : decode cX8_ticksOf 30 = .ok (.iaload, 1) := by decide +kernel
theorem dX8_ticksOf_31 : decode cX8_ticksOf 31 = .ok (.if_icmp .ge 26, 3) := by decide +kernel
theorem dX8_ticksOf_34 : decode cX8_ticksOf 34 = .ok (.aload_n 0, 1) := by decide +kernel
theorem dX8_ticksOf_35 : decode cX8_ticksOf 35 = .ok (.iload_n 1, 1) := by decide +kernel
theorem dX8_ticksOf_36 : decode cX8_ticksOf 36 = .ok (.iload 4, 2) := by decide +kernel
theorem dX8_ticksOf_38 : decode cX8_ticksOf 38 = .ok (.invokevirtual 141, 3) := by decide +kernel
theorem dX8_ticksOf_41 : decode cX8_ticksOf 41 = .ok (.ifCond .eq 10, 3) := by decide +kernel
theorem dX8_ticksOf_44 : decode cX8_ticksOf 44 = .ok (.aload_n 0, 1) := by decide +kernel
theorem dX8_ticksOf_45 : decode cX8_ticksOf 45 = .ok (.iload_n 1, 1) := by decide +kernel
theorem dX8_ticksOf_46 : decode cX8_ticksOf 46 = .ok (.iload 4, 2) := by decide +kernel
theorem dX8_ticksOf_48 : decode cX8_ticksOf 48 = .ok (.invokevirtual 169, 3) := by decide +kernel
theorem dX8_ticksOf_51 : decode cX8_ticksOf 51 = .ok (.iinc 4 1, 3) := by decide +kernel
theorem dX8_ticksOf_54 : decode cX8_ticksOf 54 = .ok (.goto (-33), 3) := by decide +kernel
theorem dX8_ticksOf_57 : decode cX8_ticksOf 57 = .ok (.aload_n 0, 1) := by decide +kernel
theorem dX8_ticksOf_58 : decode cX8_ticksOf 58 = .ok (.getfield 7, 3) := by decide +kernel
theorem dX8_ticksOf_61 : decode cX8_ticksOf 61 = .ok (.iload_n 1, 1) := by decide +kernel
theorem dX8_ticksOf_62 : decode cX8_ticksOf 62 = .ok (.iconst 2, 1) := by decide +kernel
theorem dX8_ticksOf_63 : decode cX8_ticksOf 63 = .ok (.iadd, 1) := by decide +kernel
theorem dX8_ticksOf_64 : decode cX8_ticksOf 64 = .ok (.dup2, 1) := by decide +kernel
theorem dX8_ticksOf_65 : decode cX8_ticksOf 65 = .ok (.iaload, 1) := by decide +kernel
theorem dX8_ticksOf_66 : decode cX8_ticksOf 66 = .ok (.iconst 1, 1) := by decide +kernel
theorem dX8_ticksOf_67 : decode cX8_ticksOf 67 = .ok (.iadd, 1) := by decide +kernel
theorem dX8_ticksOf_68 : decode cX8_ticksOf 68 = .ok (.iastore, 1) := by decide +kernel
theorem dX8_ticksOf_69 : decode cX8_ticksOf 69 = .ok (.iinc 3 1, 3) := by decide +kernel
theorem dX8_ticksOf_72 : decode cX8_ticksOf 72 = .ok (.goto (-70), 3) := by decide +kernel
theorem dX8_ticksOf_75 : decode cX8_ticksOf 75 = .ok (.return_, 1) := by decide +kernel
theorem dX8_comesBack_0 : decode cX8_comesBack 0 = .ok (.aload_n 0, 1) := by decide +kernel
theorem dX8_comesBack_1 : decode cX8_comesBack 1 = .ok (.getfield 7, 3) := by decide +kernel
theorem dX8_comesBack_4 : decode cX8_comesBack 4 = .ok (.iload_n 1, 1) := by decide +kernel
theorem dX8_comesBack_5 : decode cX8_comesBack 5 = .ok (.bipush 33, 2) := by decide +kernel
theorem dX8_comesBack_7 : decode cX8_comesBack 7 = .ok (.iadd, 1) := by decide +kernel
theorem dX8_comesBack_8 : decode cX8_comesBack 8 = .ok (.aload_n 0, 1) := by decide +kernel
theorem dX8_comesBack_9 : decode cX8_comesBack 9 = .ok (.getfield 7, 3) := by decide +kernel
theorem dX8_comesBack_12 : decode cX8_comesBack 12 = .ok (.iload_n 1, 1) := by decide +kernel
theorem dX8_comesBack_13 : decode cX8_comesBack 13 = .ok (.bipush 15, 2) := by decide +kernel
theorem dX8_comesBack_15 : decode cX8_comesBack 15 = .ok (.iadd, 1) := by decide +kernel
theorem dX8_comesBack_16 : decode cX8_comesBack 16 = .ok (.iload_n 2, 1) := by decide +kernel
theorem dX8_comesBack_17 : decode cX8_comesBack 17 = .ok (.iadd, 1) := by decide +kernel
theorem dX8_comesBack_18 : decode cX8_comesBack 18 = .ok (.iaload, 1) := by decide +kernel
theorem dX8_comesBack_19 : decode cX8_comesBack 19 = .ok (.iadd, 1) := by decide +kernel
theorem dX8_comesBack_20 : decode cX8_comesBack 20 = .ok (.bipush 20, 2) := by decide +kernel
theorem dX8_comesBack_22 : decode cX8_comesBack 22 = .ok (.iastore, 1) := by decide +kernel
theorem dX8_comesBack_23 : decode cX8_comesBack 23 = .ok (.aload_n 0, 1) := by decide +kernel
theorem dX8_comesBack_24 : decode cX8_comesBack 24 = .ok (.getfield 7, 3) := by decide +kernel
theorem dX8_comesBack_27 : decode cX8_comesBack 27 = .ok (.iload_n 1, 1) := by decide +kernel
theorem dX8_comesBack_28 : decode cX8_comesBack 28 = .ok (.bipush 15, 2) := by decide +kernel
theorem dX8_comesBack_30 : decode cX8_comesBack 30 = .ok (.iadd, 1) := by decide +kernel
theorem dX8_comesBack_31 : decode cX8_comesBack 31 = .ok (.iload_n 2, 1) := by decide +kernel
theorem dX8_comesBack_32 : decode cX8_comesBack 32 = .ok (.iadd, 1) := by decide +kernel
theorem dX8_comesBack_33 : decode cX8_comesBack 33 = .ok (.ldc 116, 2) := by decide +kernel
theorem dX8_comesBack_35 : decode cX8_comesBack 35 = .ok (.iastore, 1) := by decide +kernel
theorem dX8_comesBack_36 : decode cX8_comesBack 36 = .ok (.aload_n 0, 1) := by decide +kernel
theorem dX8_comesBack_37 : decode cX8_comesBack 37 = .ok (.getfield 7, 3) := by decide +kernel
theorem dX8_comesBack_40 : decode cX8_comesBack 40 = .ok (.iload_n 1, 1) := by decide +kernel
theorem dX8_comesBack_41 : decode cX8_comesBack 41 = .ok (.bipush 21, 2) := by decide +kernel
theorem dX8_comesBack_43 : decode cX8_comesBack 43 = .ok (.iadd, 1) := by decide +kernel
theorem dX8_comesBack_44 : decode cX8_comesBack 44 = .ok (.iload_n 2, 1) := by decide +kernel
theorem dX8_comesBack_45 : decode cX8_comesBack 45 = .ok (.iadd, 1) := by decide +kernel
theorem dX8_comesBack_46 : decode cX8_comesBack 46 = .ok (.iconst 0, 1) := by decide +kernel
theorem dX8_comesBack_47 : decode cX8_comesBack 47 = .ok (.iastore, 1) := by decide +kernel
theorem dX8_comesBack_48 : decode cX8_comesBack 48 = .ok (.return_, 1) := by decide +kernel
theorem dX8_goneOnes_0 : decode cX8_goneOnes 0 = .ok (.iconst 0, 1) := by decide +kernel
theorem dX8_goneOnes_1 : decode cX8_goneOnes 1 = .ok (.istore_n 2, 1) := by decide +kernel
theorem dX8_goneOnes_2 : decode cX8_goneOnes 2 = .ok (.iconst 0, 1) := by decide +kernel
theorem dX8_goneOnes_3 : decode cX8_goneOnes 3 = .ok (.istore_n 3, 1) := by decide +kernel
theorem dX8_goneOnes_4 : decode cX8_goneOnes 4 = .ok (.iload_n 3, 1) := by decide +kernel
theorem dX8_goneOnes_5 : decode cX8_goneOnes 5 = .ok (.aload_n 0, 1) := by decide +kernel
theorem dX8_goneOnes_6 : decode cX8_goneOnes 6 = .ok (.getfield 7, 3) := by decide +kernel
theorem dX8_goneOnes_9 : decode cX8_goneOnes 9 = .ok (.iload_n 1, 1) := by decide +kernel
theorem dX8_goneOnes_10 : decode cX8_goneOnes 10 = .ok (.iconst 1, 1) := by decide +kernel
theorem dX8_goneOnes_11 : decode cX8_goneOnes 11 = .ok (.iadd, 1) := by decide +kernel
theorem dX8_goneOnes_12 : decode cX8_goneOnes 12 = .ok (.iaload, 1) := by decide +kernel
theorem dX8_goneOnes_13 : decode cX8_goneOnes 13 = .ok (.if_icmp .ge 28, 3) := by decide +kernel
theorem dX8_goneOnes_16 : decode cX8_goneOnes 16 = .ok (.iload_n 2, 1) := by decide +kernel
theorem dX8_goneOnes_17 : decode cX8_goneOnes 17 = .ok (.aload_n 0, 1) := by decide +kernel
theorem dX8_goneOnes_18 : decode cX8_goneOnes 18 = .ok (.iload_n 1, 1) := by decide +kernel
theorem dX8_goneOnes_19 : decode cX8_goneOnes 19 = .ok (.iload_n 3, 1) := by decide +kernel
theorem dX8_goneOnes_20 : decode cX8_goneOnes 20 = .ok (.invokevirtual 141, 3) := by decide +kernel
theorem dX8_goneOnes_23 : decode cX8_goneOnes 23 = .ok (.ifCond .eq 7, 3) := by decide +kernel
theorem dX8_goneOnes_26 : decode cX8_goneOnes 26 = .ok (.iconst 0, 1) := by decide +kernel
theorem dX8_goneOnes_27 : decode cX8_goneOnes 27 = .ok (.goto 6, 3) := by decide +kernel
theorem dX8_goneOnes_30 : decode cX8_goneOnes 30 = .ok (.iconst 1, 1) := by decide +kernel
theorem dX8_goneOnes_31 : decode cX8_goneOnes 31 = .ok (.iload_n 3, 1) := by decide +kernel
theorem dX8_goneOnes_32 : decode cX8_goneOnes 32 = .ok (.ishl, 1) := by decide +kernel
theorem dX8_goneOnes_33 : decode cX8_goneOnes 33 = .ok (.ior, 1) := by decide +kernel
theorem dX8_goneOnes_34 : decode cX8_goneOnes 34 = .ok (.istore_n 2, 1) := by decide +kernel
theorem dX8_goneOnes_35 : decode cX8_goneOnes 35 = .ok (.iinc 3 1, 3) := by decide +kernel
theorem dX8_goneOnes_38 : decode cX8_goneOnes 38 = .ok (.goto (-34), 3) := by decide +kernel
theorem dX8_goneOnes_41 : decode cX8_goneOnes 41 = .ok (.iload_n 2, 1) := by decide +kernel
theorem dX8_goneOnes_42 : decode cX8_goneOnes 42 = .ok (.ireturn, 1) := by decide +kernel
theorem dX8_isWrong_0 : decode cX8_isWrong 0 = .ok (.aload_n 0, 1) := by decide +kernel
theorem dX8_isWrong_1 : decode cX8_isWrong 1 = .ok (.iload_n 1, 1) := by decide +kernel
theorem dX8_isWrong_2 : decode cX8_isWrong 2 = .ok (.iload_n 2, 1) := by decide +kernel
theorem dX8_isWrong_3 : decode cX8_isWrong 3 = .ok (.invokevirtual 141, 3) := by decide +kernel
theorem dX8_isWrong_6 : decode cX8_isWrong 6 = .ok (.ifCond .ne 22, 3) := by decide +kernel
theorem dX8_isWrong_9 : decode cX8_isWrong 9 = .ok (.aload_n 0, 1) := by decide +kernel
theorem dX8_isWrong_10 : decode cX8_isWrong 10 = .ok (.getfield 7, 3) := by decide +kernel
theorem dX8_isWrong_13 : decode cX8_isWrong 13 = .ok (.iload_n 1, 1) := by decide +kernel
theorem dX8_isWrong_14 : decode cX8_isWrong 14 = .ok (.bipush 15, 2) := by decide +kernel
theorem dX8_isWrong_16 : decode cX8_isWrong 16 = .ok (.iadd, 1) := by decide +kernel
theorem dX8_isWrong_17 : decode cX8_isWrong 17 = .ok (.iload_n 2, 1) := by decide +kernel
theorem dX8_isWrong_18 : decode cX8_isWrong 18 = .ok (.iadd, 1) := by decide +kernel
theorem dX8_isWrong_19 : decode cX8_isWrong 19 = .ok (.iaload, 1) := by decide +kernel
theorem dX8_isWrong_20 : decode cX8_isWrong 20 = .ok (.iload_n 2, 1) := by decide +kernel
theorem dX8_isWrong_21 : decode cX8_isWrong 21 = .ok (.if_icmp .eq 7, 3) := by decide +kernel
theorem dX8_isWrong_24 : decode cX8_isWrong 24 = .ok (.iconst 1, 1) := by decide +kernel
theorem dX8_isWrong_25 : decode cX8_isWrong 25 = .ok (.goto 4, 3) := by decide +kernel
theorem dX8_isWrong_28 : decode cX8_isWrong 28 = .ok (.iconst 0, 1) := by decide +kernel
theorem dX8_isWrong_29 : decode cX8_isWrong 29 = .ok (.ireturn, 1) := by decide +kernel
theorem dX8_isRobbed_0 : decode cX8_isRobbed 0 = .ok (.aload_n 0, 1) := by decide +kernel
theorem dX8_isRobbed_1 : decode cX8_isRobbed 1 = .ok (.iload_n 1, 1) := by decide +kernel
theorem dX8_isRobbed_2 : decode cX8_isRobbed 2 = .ok (.iload_n 2, 1) := by decide +kernel
theorem dX8_isRobbed_3 : decode cX8_isRobbed 3 = .ok (.invokevirtual 141, 3) := by decide +kernel
theorem dX8_isRobbed_6 : decode cX8_isRobbed 6 = .ok (.ifCond .eq 23, 3) := by decide +kernel
theorem dX8_isRobbed_9 : decode cX8_isRobbed 9 = .ok (.aload_n 0, 1) := by decide +kernel
theorem dX8_isRobbed_10 : decode cX8_isRobbed 10 = .ok (.getfield 7, 3) := by decide +kernel
theorem dX8_isRobbed_13 : decode cX8_isRobbed 13 = .ok (.iload_n 1, 1) := by decide +kernel
theorem dX8_isRobbed_14 : decode cX8_isRobbed 14 = .ok (.bipush 33, 2) := by decide +kernel
theorem dX8_isRobbed_16 : decode cX8_isRobbed 16 = .ok (.iadd, 1) := by decide +kernel
theorem dX8_isRobbed_17 : decode cX8_isRobbed 17 = .ok (.iload_n 2, 1) := by decide +kernel
theorem dX8_isRobbed_18 : decode cX8_isRobbed 18 = .ok (.iadd, 1) := by decide +kernel
theorem dX8_isRobbed_19 : decode cX8_isRobbed 19 = .ok (.iaload, 1) := by decide +kernel
theorem dX8_isRobbed_20 : decode cX8_isRobbed 20 = .ok (.bipush 30, 2) := by decide +kernel
theorem dX8_isRobbed_22 : decode cX8_isRobbed 22 = .ok (.if_icmp .lt 7, 3) := by decide +kernel
theorem dX8_isRobbed_25 : decode cX8_isRobbed 25 = .ok (.iconst 1, 1) := by decide +kernel
theorem dX8_isRobbed_26 : decode cX8_isRobbed 26 = .ok (.goto 4, 3) := by decide +kernel
theorem dX8_isRobbed_29 : decode cX8_isRobbed 29 = .ok (.iconst 0, 1) := by decide +kernel
theorem dX8_isRobbed_30 : decode cX8_isRobbed 30 = .ok (.ireturn, 1) := by decide +kernel
theorem dX8_wrongOnes_0 : decode cX8_wrongOnes 0 = .ok (.iconst 0, 1) := by decide +kernel
theorem dX8_wrongOnes_1 : decode cX8_wrongOnes 1 = .ok (.istore_n 2, 1) := by decide +kernel
theorem dX8_wrongOnes_2 : decode cX8_wrongOnes 2 = .ok (.iconst 0, 1) := by decide +kernel
theorem dX8_wrongOnes_3 : decode cX8_wrongOnes 3 = .ok (.istore_n 3, 1) := by decide +kernel
theorem dX8_wrongOnes_4 : decode cX8_wrongOnes 4 = .ok (.iload_n 3, 1) := by decide +kernel
theorem dX8_wrongOnes_5 : decode cX8_wrongOnes 5 = .ok (.aload_n 0, 1) := by decide +kernel
theorem dX8_wrongOnes_6 : decode cX8_wrongOnes 6 = .ok (.getfield 7, 3) := by decide +kernel
theorem dX8_wrongOnes_9 : decode cX8_wrongOnes 9 = .ok (.iload_n 1, 1) := by decide +kernel
theorem dX8_wrongOnes_10 : decode cX8_wrongOnes 10 = .ok (.iconst 1, 1) := by decide +kernel
theorem dX8_wrongOnes_11 : decode cX8_wrongOnes 11 = .ok (.iadd, 1) := by decide +kernel
theorem dX8_wrongOnes_12 : decode cX8_wrongOnes 12 = .ok (.iaload, 1) := by decide +kernel
theorem dX8_wrongOnes_13 : decode cX8_wrongOnes 13 = .ok (.if_icmp .ge 28, 3) := by decide +kernel
theorem dX8_wrongOnes_16 : decode cX8_wrongOnes 16 = .ok (.iload_n 2, 1) := by decide +kernel
theorem dX8_wrongOnes_17 : decode cX8_wrongOnes 17 = .ok (.aload_n 0, 1) := by decide +kernel
theorem dX8_wrongOnes_18 : decode cX8_wrongOnes 18 = .ok (.iload_n 1, 1) := by decide +kernel
theorem dX8_wrongOnes_19 : decode cX8_wrongOnes 19 = .ok (.iload_n 3, 1) := by decide +kernel
theorem dX8_wrongOnes_20 : decode cX8_wrongOnes 20 = .ok (.invokevirtual 172, 3) := by decide +kernel
theorem dX8_wrongOnes_23 : decode cX8_wrongOnes 23 = .ok (.ifCond .eq 9, 3) := by decide +kernel
theorem dX8_wrongOnes_26 : decode cX8_wrongOnes 26 = .ok (.iconst 1, 1) := by decide +kernel
theorem dX8_wrongOnes_27 : decode cX8_wrongOnes 27 = .ok (.iload_n 3, 1) := by decide +kernel
theorem dX8_wrongOnes_28 : decode cX8_wrongOnes 28 = .ok (.ishl, 1) := by decide +kernel
theorem dX8_wrongOnes_29 : decode cX8_wrongOnes 29 = .ok (.goto 4, 3) := by decide +kernel
theorem dX8_wrongOnes_32 : decode cX8_wrongOnes 32 = .ok (.iconst 0, 1) := by decide +kernel
theorem dX8_wrongOnes_33 : decode cX8_wrongOnes 33 = .ok (.ior, 1) := by decide +kernel
theorem dX8_wrongOnes_34 : decode cX8_wrongOnes 34 = .ok (.istore_n 2, 1) := by decide +kernel
theorem dX8_wrongOnes_35 : decode cX8_wrongOnes 35 = .ok (.iinc 3 1, 3) := by decide +kernel
theorem dX8_wrongOnes_38 : decode cX8_wrongOnes 38 = .ok (.goto (-34), 3) := by decide +kernel
theorem dX8_wrongOnes_41 : decode cX8_wrongOnes 41 = .ok (.iload_n 2, 1) := by decide +kernel
theorem dX8_wrongOnes_42 : decode cX8_wrongOnes 42 = .ok (.ireturn, 1) := by decide +kernel
theorem dX8_robbedOnes_0 : decode cX8_robbedOnes 0 = .ok (.iconst 0, 1) := by decide +kernel
theorem dX8_robbedOnes_1 : decode cX8_robbedOnes 1 = .ok (.istore_n 2, 1) := by decide +kernel
theorem dX8_robbedOnes_2 : decode cX8_robbedOnes 2 = .ok (.iconst 0, 1) := by decide +kernel
theorem dX8_robbedOnes_3 : decode cX8_robbedOnes 3 = .ok (.istore_n 3, 1) := by decide +kernel
theorem dX8_robbedOnes_4 : decode cX8_robbedOnes 4 = .ok (.iload_n 3, 1) := by decide +kernel
theorem dX8_robbedOnes_5 : decode cX8_robbedOnes 5 = .ok (.aload_n 0, 1) := by decide +kernel
theorem dX8_robbedOnes_6 : decode cX8_robbedOnes 6 = .ok (.getfield 7, 3) := by decide +kernel
theorem dX8_robbedOnes_9 : decode cX8_robbedOnes 9 = .ok (.iload_n 1, 1) := by decide +kernel
theorem dX8_robbedOnes_10 : decode cX8_robbedOnes 10 = .ok (.iconst 1, 1) := by decide +kernel
theorem dX8_robbedOnes_11 : decode cX8_robbedOnes 11 = .ok (.iadd, 1) := by decide +kernel
theorem dX8_robbedOnes_12 : decode cX8_robbedOnes 12 = .ok (.iaload, 1) := by decide +kernel
theorem dX8_robbedOnes_13 : decode cX8_robbedOnes 13 = .ok (.if_icmp .ge 28, 3) := by decide +kernel
theorem dX8_robbedOnes_16 : decode cX8_robbedOnes 16 = .ok (.iload_n 2, 1) := by decide +kernel
theorem dX8_robbedOnes_17 : decode cX8_robbedOnes 17 = .ok (.aload_n 0, 1) := by decide +kernel
theorem dX8_robbedOnes_18 : decode cX8_robbedOnes 18 = .ok (.iload_n 1, 1) := by decide +kernel
theorem dX8_robbedOnes_19 : decode cX8_robbedOnes 19 = .ok (.iload_n 3, 1) := by decide +kernel
theorem dX8_robbedOnes_20 : decode cX8_robbedOnes 20 = .ok (.invokevirtual 175, 3) := by decide +kernel
theorem dX8_robbedOnes_23 : decode cX8_robbedOnes 23 = .ok (.ifCond .eq 9, 3) := by decide +kernel
theorem dX8_robbedOnes_26 : decode cX8_robbedOnes 26 = .ok (.iconst 1, 1) := by decide +kernel
theorem dX8_robbedOnes_27 : decode cX8_robbedOnes 27 = .ok (.iload_n 3, 1) := by decide +kernel
theorem dX8_robbedOnes_28 : decode cX8_robbedOnes 28 = .ok (.ishl, 1) := by decide +kernel
theorem dX8_robbedOnes_29 : decode cX8_robbedOnes 29 = .ok (.goto 4, 3) := by decide +kernel
theorem dX8_robbedOnes_32 : decode cX8_robbedOnes 32 = .ok (.iconst 0, 1) := by decide +kernel
theorem dX8_robbedOnes_33 : decode cX8_robbedOnes 33 = .ok (.ior, 1) := by decide +kernel
theorem dX8_robbedOnes_34 : decode cX8_robbedOnes 34 = .ok (.istore_n 2, 1) := by decide +kernel
theorem dX8_robbedOnes_35 : decode cX8_robbedOnes 35 = .ok (.iinc 3 1, 3) := by decide +kernel
theorem dX8_robbedOnes_38 : decode cX8_robbedOnes 38 = .ok (.goto (-34), 3) := by decide +kernel
theorem dX8_robbedOnes_41 : decode cX8_robbedOnes 41 = .ok (.iload_n 2, 1) := by decide +kernel
theorem dX8_robbedOnes_42 : decode cX8_robbedOnes 42 = .ok (.ireturn, 1) := by decide +kernel
theorem dX8_allSaw_0 : decode cX8_allSaw 0 = .ok (.iconst 0, 1) := by decide +kernel
theorem dX8_allSaw_1 : decode cX8_allSaw 1 = .ok (.istore_n 2, 1) := by decide +kernel
theorem dX8_allSaw_2 : decode cX8_allSaw 2 = .ok (.iconst 0, 1) := by decide +kernel
theorem dX8_allSaw_3 : decode cX8_allSaw 3 = .ok (.istore_n 3, 1) := by decide +kernel
theorem dX8_allSaw_4 : decode cX8_allSaw 4 = .ok (.iload_n 3, 1) := by decide +kernel
theorem dX8_allSaw_5 : decode cX8_allSaw 5 = .ok (.aload_n 0, 1) := by decide +kernel
theorem dX8_allSaw_6 : decode cX8_allSaw 6 = .ok (.getfield 7, 3) := by decide +kernel
theorem dX8_allSaw_9 : decode cX8_allSaw 9 = .ok (.iload_n 1, 1) := by decide +kernel
theorem dX8_allSaw_10 : decode cX8_allSaw 10 = .ok (.iconst 1, 1) := by decide +kernel
theorem dX8_allSaw_11 : decode cX8_allSaw 11 = .ok (.iadd, 1) := by decide +kernel
theorem dX8_allSaw_12 : decode cX8_allSaw 12 = .ok (.iaload, 1) := by decide +kernel
theorem dX8_allSaw_13 : decode cX8_allSaw 13 = .ok (.if_icmp .ge 23, 3) := by decide +kernel
theorem dX8_allSaw_16 : decode cX8_allSaw 16 = .ok (.iload_n 2, 1) := by decide +kernel
theorem dX8_allSaw_17 : decode cX8_allSaw 17 = .ok (.aload_n 0, 1) := by decide +kernel
theorem dX8_allSaw_18 : decode cX8_allSaw 18 = .ok (.getfield 7, 3) := by decide +kernel
theorem dX8_allSaw_21 : decode cX8_allSaw 21 = .ok (.iload_n 1, 1) := by decide +kernel
theorem dX8_allSaw_22 : decode cX8_allSaw 22 = .ok (.bipush 21, 2) := by decide +kernel
theorem dX8_allSaw_24 : decode cX8_allSaw 24 = .ok (.iadd, 1) := by decide +kernel
theorem dX8_allSaw_25 : decode cX8_allSaw 25 = .ok (.iload_n 3, 1) := by decide +kernel
theorem dX8_allSaw_26 : decode cX8_allSaw 26 = .ok (.iadd, 1) := by decide +kernel
theorem dX8_allSaw_27 : decode cX8_allSaw 27 = .ok (.iaload, 1) := by decide +kernel
theorem dX8_allSaw_28 : decode cX8_allSaw 28 = .ok (.iadd, 1) := by decide +kernel
theorem dX8_allSaw_29 : decode cX8_allSaw 29 = .ok (.istore_n 2, 1) := by decide +kernel
theorem dX8_allSaw_30 : decode cX8_allSaw 30 = .ok (.iinc 3 1, 3) := by decide +kernel
theorem dX8_allSaw_33 : decode cX8_allSaw 33 = .ok (.goto (-29), 3) := by decide +kernel
theorem dX8_allSaw_36 : decode cX8_allSaw 36 = .ok (.iload_n 2, 1) := by decide +kernel
theorem dX8_allSaw_37 : decode cX8_allSaw 37 = .ok (.ireturn, 1) := by decide +kernel
theorem dX8_keepPast_0 : decode cX8_keepPast 0 = .ok (.iconst 0, 1) := by decide +kernel
theorem dX8_keepPast_1 : decode cX8_keepPast 1 = .ok (.istore_n 1, 1) := by decide +kernel
theorem dX8_keepPast_2 : decode cX8_keepPast 2 = .ok (.iload_n 1, 1) := by decide +kernel
theorem dX8_keepPast_3 : decode cX8_keepPast 3 = .ok (.sipush 897, 3) := by decide +kernel
theorem dX8_keepPast_6 : decode cX8_keepPast 6 = .ok (.if_icmp .ge 36, 3) := by decide +kernel
theorem dX8_keepPast_9 : decode cX8_keepPast 9 = .ok (.aload_n 0, 1) := by decide +kernel
theorem dX8_keepPast_10 : decode cX8_keepPast 10 = .ok (.getfield 135, 3) := by decide +kernel
theorem dX8_keepPast_13 : decode cX8_keepPast 13 = .ok (.bipush 24, 2) := by decide +kernel
theorem dX8_keepPast_15 : decode cX8_keepPast 15 = .ok (.if_icmp .ne 27, 3) := by decide +kernel
theorem dX8_keepPast_18 : decode cX8_keepPast 18 = .ok (.aload_n 0, 1) := by decide +kernel
theorem dX8_keepPast_19 : decode cX8_keepPast 19 = .ok (.getfield 7, 3) := by decide +kernel
theorem dX8_keepPast_22 : decode cX8_keepPast 22 = .ok (.bipush 39, 2) := by decide +kernel
theorem dX8_keepPast_24 : decode cX8_keepPast 24 = .ok (.iload_n 1, 1) := by decide +kernel
theorem dX8_keepPast_25 : decode cX8_keepPast 25 = .ok (.iadd, 1) := by decide +kernel
theorem dX8_keepPast_26 : decode cX8_keepPast 26 = .ok (.aload_n 0, 1) := by decide +kernel
theorem dX8_keepPast_27 : decode cX8_keepPast 27 = .ok (.getfield 7, 3) := by decide +kernel
theorem dX8_keepPast_30 : decode cX8_keepPast 30 = .ok (.bipush 78, 2) := by decide +kernel
theorem dX8_keepPast_32 : decode cX8_keepPast 32 = .ok (.iload_n 1, 1) := by decide +kernel
theorem dX8_keepPast_33 : decode cX8_keepPast 33 = .ok (.iadd, 1) := by decide +kernel
theorem dX8_keepPast_34 : decode cX8_keepPast 34 = .ok (.iaload, 1) := by decide +kernel
theorem dX8_keepPast_35 : decode cX8_keepPast 35 = .ok (.iastore, 1) := by decide +kernel
theorem dX8_keepPast_36 : decode cX8_keepPast 36 = .ok (.iinc 1 1, 3) := by decide +kernel
theorem dX8_keepPast_39 : decode cX8_keepPast 39 = .ok (.goto (-37), 3) := by decide +kernel
theorem dX8_keepPast_42 : decode cX8_keepPast 42 = .ok (.aload_n 0, 1) := by decide +kernel
theorem dX8_keepPast_43 : decode cX8_keepPast 43 = .ok (.dup, 1) := by decide +kernel
theorem dX8_keepPast_44 : decode cX8_keepPast 44 = .ok (.getfield 135, 3) := by decide +kernel
theorem dX8_keepPast_47 : decode cX8_keepPast 47 = .ok (.aload_n 0, 1) := by decide +kernel
theorem dX8_keepPast_48 : decode cX8_keepPast 48 = .ok (.getfield 135, 3) := by decide +kernel
theorem dX8_keepPast_51 : decode cX8_keepPast 51 = .ok (.bipush 24, 2) := by decide +kernel
theorem dX8_keepPast_53 : decode cX8_keepPast 53 = .ok (.if_icmp .ne 7, 3) := by decide +kernel
theorem dX8_keepPast_56 : decode cX8_keepPast 56 = .ok (.iconst 1, 1) := by decide +kernel
theorem dX8_keepPast_57 : decode cX8_keepPast 57 = .ok (.goto 4, 3) := by decide +kernel
theorem dX8_keepPast_60 : decode cX8_keepPast 60 = .ok (.iconst 0, 1) := by decide +kernel
theorem dX8_keepPast_61 : decode cX8_keepPast 61 = .ok (.isub, 1) := by decide +kernel
theorem dX8_keepPast_62 : decode cX8_keepPast 62 = .ok (.putfield 135, 3) := by decide +kernel
theorem dX8_keepPast_65 : decode cX8_keepPast 65 = .ok (.aload_n 0, 1) := by decide +kernel
theorem dX8_keepPast_66 : decode cX8_keepPast 66 = .ok (.iconst 0, 1) := by decide +kernel
theorem dX8_keepPast_67 : decode cX8_keepPast 67 = .ok (.bipush 39, 2) := by decide +kernel
theorem dX8_keepPast_69 : decode cX8_keepPast 69 = .ok (.bipush 39, 2) := by decide +kernel
theorem dX8_keepPast_71 : decode cX8_keepPast 71 = .ok (.aload_n 0, 1) := by decide +kernel
theorem dX8_keepPast_72 : decode cX8_keepPast 72 = .ok (.getfield 135, 3) := by decide +kernel
theorem dX8_keepPast_75 : decode cX8_keepPast 75 = .ok (.imul, 1) := by decide +kernel
theorem dX8_keepPast_76 : decode cX8_keepPast 76 = .ok (.iadd, 1) := by decide +kernel
theorem dX8_keepPast_77 : decode cX8_keepPast 77 = .ok (.invokevirtual 131, 3) := by decide +kernel
theorem dX8_keepPast_80 : decode cX8_keepPast 80 = .ok (.aload_n 0, 1) := by decide +kernel
theorem dX8_keepPast_81 : decode cX8_keepPast 81 = .ok (.dup, 1) := by decide +kernel
theorem dX8_keepPast_82 : decode cX8_keepPast 82 = .ok (.getfield 135, 3) := by decide +kernel
theorem dX8_keepPast_85 : decode cX8_keepPast 85 = .ok (.iconst 1, 1) := by decide +kernel
theorem dX8_keepPast_86 : decode cX8_keepPast 86 = .ok (.iadd, 1) := by decide +kernel
theorem dX8_keepPast_87 : decode cX8_keepPast 87 = .ok (.putfield 135, 3) := by decide +kernel
theorem dX8_keepPast_90 : decode cX8_keepPast 90 = .ok (.return_, 1) := by decide +kernel
theorem dX8_undo_0 : decode cX8_undo 0 = .ok (.aload_n 0, 1) := by decide +kernel
theorem dX8_undo_1 : decode cX8_undo 1 = .ok (.getfield 135, 3) := by decide +kernel
theorem dX8_undo_4 : decode cX8_undo 4 = .ok (.ifCond .ne 6, 3) := by decide +kernel
theorem dX8_undo_7 : decode cX8_undo 7 = .ok (.ldc 178, 2) := by decide +kernel
theorem dX8_undo_9 : decode cX8_undo 9 = .ok (.ireturn, 1) := by decide +kernel
theorem dX8_undo_10 : decode cX8_undo 10 = .ok (.aload_n 0, 1) := by decide +kernel
theorem dX8_undo_11 : decode cX8_undo 11 = .ok (.dup, 1) := by decide +kernel
theorem dX8_undo_12 : decode cX8_undo 12 = .ok (.getfield 135, 3) := by decide +kernel
theorem dX8_undo_15 : decode cX8_undo 15 = .ok (.iconst 1, 1) := by decide +kernel
theorem dX8_undo_16 : decode cX8_undo 16 = .ok (.isub, 1) := by decide +kernel
theorem dX8_undo_17 : decode cX8_undo 17 = .ok (.putfield 135, 3) := by decide +kernel
theorem dX8_undo_20 : decode cX8_undo 20 = .ok (.aload_n 0, 1) := by decide +kernel
theorem dX8_undo_21 : decode cX8_undo 21 = .ok (.bipush 39, 2) := by decide +kernel
theorem dX8_undo_23 : decode cX8_undo 23 = .ok (.bipush 39, 2) := by decide +kernel
theorem dX8_undo_25 : decode cX8_undo 25 = .ok (.aload_n 0, 1) := by decide +kernel
theorem dX8_undo_26 : decode cX8_undo 26 = .ok (.getfield 135, 3) := by decide +kernel
theorem dX8_undo_29 : decode cX8_undo 29 = .ok (.imul, 1) := by decide +kernel
theorem dX8_undo_30 : decode cX8_undo 30 = .ok (.iadd, 1) := by decide +kernel
theorem dX8_undo_31 : decode cX8_undo 31 = .ok (.iconst 0, 1) := by decide +kernel
theorem dX8_undo_32 : decode cX8_undo 32 = .ok (.invokevirtual 131, 3) := by decide +kernel
theorem dX8_undo_35 : decode cX8_undo 35 = .ok (.aload_n 0, 1) := by decide +kernel
theorem dX8_undo_36 : decode cX8_undo 36 = .ok (.getfield 135, 3) := by decide +kernel
theorem dX8_undo_39 : decode cX8_undo 39 = .ok (.ireturn, 1) := by decide +kernel
theorem dX8_ticks_0 : decode cX8_ticks 0 = .ok (.aload_n 0, 1) := by decide +kernel
theorem dX8_ticks_1 : decode cX8_ticks 1 = .ok (.invokevirtual 179, 3) := by decide +kernel
theorem dX8_ticks_4 : decode cX8_ticks 4 = .ok (.ifCond .ne 6, 3) := by decide +kernel
theorem dX8_ticks_7 : decode cX8_ticks 7 = .ok (.ldc 178, 2) := by decide +kernel
theorem dX8_ticks_9 : decode cX8_ticks 9 = .ok (.ireturn, 1) := by decide +kernel
theorem dX8_ticks_10 : decode cX8_ticks 10 = .ok (.iload_n 1, 1) := by decide +kernel
theorem dX8_ticks_11 : decode cX8_ticks 11 = .ok (.i2l, 1) := by decide +kernel
theorem dX8_ticks_12 : decode cX8_ticks 12 = .ok (.lconst 1, 1) := by decide +kernel
theorem dX8_ticks_13 : decode cX8_ticks 13 = .ok (.ldc2_w 182, 3) := by decide +kernel
theorem dX8_ticks_16 : decode cX8_ticks 16 = .ok (.invokestatic 48, 3) := by decide +kernel
theorem dX8_ticks_19 : decode cX8_ticks 19 = .ok (.ifCond .ne 6, 3) := by decide +kernel
theorem dX8_ticks_22 : decode cX8_ticks 22 = .ok (.ldc 58, 2) := by decide +kernel
theorem dX8_ticks_24 : decode cX8_ticks 24 = .ok (.ireturn, 1) := by decide +kernel
theorem dX8_ticks_25 : decode cX8_ticks 25 = .ok (.aload_n 0, 1) := by decide +kernel
theorem dX8_ticks_26 : decode cX8_ticks 26 = .ok (.getfield 7, 3) := by decide +kernel
theorem dX8_ticks_29 : decode cX8_ticks 29 = .ok (.iconst 2, 1) := by decide +kernel
theorem dX8_ticks_30 : decode cX8_ticks 30 = .ok (.iaload, 1) := by decide +kernel
theorem dX8_ticks_31 : decode cX8_ticks 31 = .ok (.iload_n 1, 1) := by decide +kernel
theorem dX8_ticks_32 : decode cX8_ticks 32 = .ok (.iadd, 1) := by decide +kernel
theorem dX8_ticks_33 : decode cX8_ticks 33 = .ok (.sipush 999, 3) := by decide +kernel
theorem dX8_ticks_36 : decode cX8_ticks 36 = .ok (.if_icmp .le 6, 3) := by decide +kernel
theorem dX8_ticks_39 : decode cX8_ticks 39 = .ok (.ldc 79, 2) := by decide +kernel
theorem dX8_ticks_41 : decode cX8_ticks 41 = .ok (.ireturn, 1) := by decide +kernel
theorem dX8_ticks_42 : decode cX8_ticks 42 = .ok (.iconst 0, 1) := by decide +kernel
theorem dX8_ticks_43 : decode cX8_ticks 43 = .ok (.istore_n 2, 1) := by decide +kernel
theorem dX8_ticks_44 : decode cX8_ticks 44 = .ok (.iload_n 2, 1) := by decide +kernel
theorem dX8_ticks_45 : decode cX8_ticks 45 = .ok (.iload_n 1, 1) := by decide +kernel
theorem dX8_ticks_46 : decode cX8_ticks 46 = .ok (.if_icmp .ge 19, 3) := by decide +kernel
theorem dX8_ticks_49 : decode cX8_ticks 49 = .ok (.aload_n 0, 1) := by decide +kernel
theorem dX8_ticks_50 : decode cX8_ticks 50 = .ok (.invokevirtual 184, 3) := by decide +kernel
theorem dX8_ticks_53 : decode cX8_ticks 53 = .ok (.aload_n 0, 1) := by decide +kernel
theorem dX8_ticks_54 : decode cX8_ticks 54 = .ok (.iconst 0, 1) := by decide +kernel
theorem dX8_ticks_55 : decode cX8_ticks 55 = .ok (.iconst 1, 1) := by decide +kernel
theorem dX8_ticks_56 : decode cX8_ticks 56 = .ok (.invokevirtual 187, 3) := by decide +kernel
theorem dX8_ticks_59 : decode cX8_ticks 59 = .ok (.iinc 2 1, 3) := by decide +kernel
theorem dX8_ticks_62 : decode cX8_ticks 62 = .ok (.goto (-18), 3) := by decide +kernel
theorem dX8_ticks_65 : decode cX8_ticks 65 = .ok (.aload_n 0, 1) := by decide +kernel
theorem dX8_ticks_66 : decode cX8_ticks 66 = .ok (.iconst 0, 1) := by decide +kernel
theorem dX8_ticks_67 : decode cX8_ticks 67 = .ok (.invokevirtual 190, 3) := by decide +kernel
theorem dX8_ticks_70 : decode cX8_ticks 70 = .ok (.ireturn, 1) := by decide +kernel
theorem dX8_move_0 : decode cX8_move 0 = .ok (.aload_n 0, 1) := by decide +kernel
theorem dX8_move_1 : decode cX8_move 1 = .ok (.iload_n 1, 1) := by decide +kernel
theorem dX8_move_2 : decode cX8_move 2 = .ok (.invokevirtual 193, 3) := by decide +kernel
theorem dX8_move_5 : decode cX8_move 5 = .ok (.ifCond .eq 11, 3) := by decide +kernel
theorem dX8_move_8 : decode cX8_move 8 = .ok (.aload_n 0, 1) := by decide +kernel
theorem dX8_move_9 : decode cX8_move 9 = .ok (.iload_n 2, 1) := by decide +kernel
theorem dX8_move_10 : decode cX8_move 10 = .ok (.invokevirtual 196, 3) := by decide +kernel
theorem dX8_move_13 : decode cX8_move 13 = .ok (.ifCond .ne 6, 3) := by decide +kernel
theorem dX8_move_16 : decode cX8_move 16 = .ok (.ldc 58, 2) := by decide +kernel
theorem dX8_move_18 : decode cX8_move 18 = .ok (.ireturn, 1) := by decide +kernel
theorem dX8_move_19 : decode cX8_move 19 = .ok (.aload_n 0, 1) := by decide +kernel
theorem dX8_move_20 : decode cX8_move 20 = .ok (.getfield 7, 3) := by decide +kernel
theorem dX8_move_23 : decode cX8_move 23 = .ok (.bipush 9, 2) := by decide +kernel
theorem dX8_move_25 : decode cX8_move 25 = .ok (.iload_n 1, 1) := by decide +kernel
theorem dX8_move_26 : decode cX8_move 26 = .ok (.iadd, 1) := by decide +kernel
theorem dX8_move_27 : decode cX8_move 27 = .ok (.iaload, 1) := by decide +kernel
theorem dX8_move_28 : decode cX8_move 28 = .ok (.istore_n 3, 1) := by decide +kernel
theorem dX8_move_29 : decode cX8_move 29 = .ok (.aload_n 0, 1) := by decide +kernel
theorem dX8_move_30 : decode cX8_move 30 = .ok (.iconst 0, 1) := by decide +kernel
theorem dX8_move_31 : decode cX8_move 31 = .ok (.iload_n 1, 1) := by decide +kernel
theorem dX8_move_32 : decode cX8_move 32 = .ok (.invokevirtual 141, 3) := by decide +kernel
theorem dX8_move_35 : decode cX8_move 35 = .ok (.ifCond .eq 8, 3) := by decide +kernel
theorem dX8_move_38 : decode cX8_move 38 = .ok (.iload_n 3, 1) := by decide +kernel
theorem dX8_move_39 : decode cX8_move 39 = .ok (.iload_n 2, 1) := by decide +kernel
theorem dX8_move_40 : decode cX8_move 40 = .ok (.if_icmp .ne 6, 3) := by decide +kernel
theorem dX8_move_43 : decode cX8_move 43 = .ok (.ldc 178, 2) := by decide +kernel
theorem dX8_move_45 : decode cX8_move 45 = .ok (.ireturn, 1) := by decide +kernel
theorem dX8_move_46 : decode cX8_move 46 = .ok (.aload_n 0, 1) := by decide +kernel
theorem dX8_move_47 : decode cX8_move 47 = .ok (.invokevirtual 184, 3) := by decide +kernel
theorem dX8_move_50 : decode cX8_move 50 = .ok (.aload_n 0, 1) := by decide +kernel
theorem dX8_move_51 : decode cX8_move 51 = .ok (.getfield 7, 3) := by decide +kernel
theorem dX8_move_54 : decode cX8_move 54 = .ok (.bipush 9, 2) := by decide +kernel
theorem dX8_move_56 : decode cX8_move 56 = .ok (.iload_n 1, 1) := by decide +kernel
theorem dX8_move_57 : decode cX8_move 57 = .ok (.iadd, 1) := by decide +kernel
theorem dX8_move_58 : decode cX8_move 58 = .ok (.iload_n 2, 1) := by decide +kernel
theorem dX8_move_59 : decode cX8_move 59 = .ok (.iastore, 1) := by decide +kernel
theorem dX8_move_60 : decode cX8_move 60 = .ok (.iload_n 3, 1) := by decide +kernel
theorem dX8_move_61 : decode cX8_move 61 = .ok (.ireturn, 1) := by decide +kernel
theorem dX8_paint_0 : decode cX8_paint 0 = .ok (.aload_n 0, 1) := by decide +kernel
theorem dX8_paint_1 : decode cX8_paint 1 = .ok (.iload_n 1, 1) := by decide +kernel
theorem dX8_paint_2 : decode cX8_paint 2 = .ok (.invokevirtual 193, 3) := by decide +kernel
theorem dX8_paint_5 : decode cX8_paint 5 = .ok (.ifCond .eq 15, 3) := by decide +kernel
theorem dX8_paint_8 : decode cX8_paint 8 = .ok (.iload_n 2, 1) := by decide +kernel
theorem dX8_paint_9 : decode cX8_paint 9 = .ok (.i2l, 1) := by decide +kernel
theorem dX8_paint_10 : decode cX8_paint 10 = .ok (.lconst 0, 1) := by decide +kernel
theorem dX8_paint_11 : decode cX8_paint 11 = .ok (.ldc2_w 199, 3) := by decide +kernel
theorem dX8_paint_14 : decode cX8_paint 14 = .ok (.invokestatic 48, 3) := by decide +kernel
theorem dX8_paint_17 : decode cX8_paint 17 = .ok (.ifCond .ne 6, 3) := by decide +kernel
theorem dX8_paint_20 : decode cX8_paint 20 = .ok (.ldc 58, 2) := by decide +kernel
theorem dX8_paint_22 : decode cX8_paint 22 = .ok (.ireturn, 1) := by decide +kernel
theorem dX8_paint_23 : decode cX8_paint 23 = .ok (.aload_n 0, 1) := by decide +kernel
theorem dX8_paint_24 : decode cX8_paint 24 = .ok (.invokevirtual 184, 3) := by decide +kernel
theorem dX8_paint_27 : decode cX8_paint 27 = .ok (.aload_n 0, 1) := by decide +kernel
theorem dX8_paint_28 : decode cX8_paint 28 = .ok (.getfield 7, 3) := by decide +kernel
theorem dX8_paint_31 : decode cX8_paint 31 = .ok (.bipush 27, 2) := by decide +kernel
theorem dX8_paint_33 : decode cX8_paint 33 = .ok (.iload_n 1, 1) := by decide +kernel
theorem dX8_paint_34 : decode cX8_paint 34 = .ok (.iadd, 1) := by decide +kernel
theorem dX8_paint_35 : decode cX8_paint 35 = .ok (.iaload, 1) := by decide +kernel
theorem dX8_paint_36 : decode cX8_paint 36 = .ok (.istore_n 3, 1) := by decide +kernel
theorem dX8_paint_37 : decode cX8_paint 37 = .ok (.aload_n 0, 1) := by decide +kernel
theorem dX8_paint_38 : decode cX8_paint 38 = .ok (.getfield 7, 3) := by decide +kernel
theorem dX8_paint_41 : decode cX8_paint 41 = .ok (.bipush 27, 2) := by decide +kernel
theorem dX8_paint_43 : decode cX8_paint 43 = .ok (.iload_n 1, 1) := by decide +kernel
theorem dX8_paint_44 : decode cX8_paint 44 = .ok (.iadd, 1) := by decide +kernel
theorem dX8_paint_45 : decode cX8_paint 45 = .ok (.iload_n 2, 1) := by decide +kernel
theorem dX8_paint_46 : decode cX8_paint 46 = .ok (.iastore, 1) := by decide +kernel
theorem dX8_paint_47 : decode cX8_paint 47 = .ok (.iload_n 3, 1) := by decide +kernel
theorem dX8_paint_48 : decode cX8_paint 48 = .ok (.ireturn, 1) := by decide +kernel
theorem dX8_back_0 : decode cX8_back 0 = .ok (.aload_n 0, 1) := by decide +kernel
theorem dX8_back_1 : decode cX8_back 1 = .ok (.iload_n 1, 1) := by decide +kernel
theorem dX8_back_2 : decode cX8_back 2 = .ok (.invokevirtual 193, 3) := by decide +kernel
theorem dX8_back_5 : decode cX8_back 5 = .ok (.ifCond .ne 6, 3) := by decide +kernel
theorem dX8_back_8 : decode cX8_back 8 = .ok (.ldc 58, 2) := by decide +kernel
theorem dX8_back_10 : decode cX8_back 10 = .ok (.ireturn, 1) := by decide +kernel
theorem dX8_back_11 : decode cX8_back 11 = .ok (.aload_n 0, 1) := by decide +kernel
theorem dX8_back_12 : decode cX8_back 12 = .ok (.iconst 0, 1) := by decide +kernel
theorem dX8_back_13 : decode cX8_back 13 = .ok (.iload_n 1, 1) := by decide +kernel
theorem dX8_back_14 : decode cX8_back 14 = .ok (.invokevirtual 141, 3) := by decide +kernel
theorem dX8_back_17 : decode cX8_back 17 = .ok (.ifCond .eq 6, 3) := by decide +kernel
theorem dX8_back_20 : decode cX8_back 20 = .ok (.ldc 178, 2) := by decide +kernel
theorem dX8_back_22 : decode cX8_back 22 = .ok (.ireturn, 1) := by decide +kernel
theorem dX8_back_23 : decode cX8_back 23 = .ok (.aload_n 0, 1) := by decide +kernel
theorem dX8_back_24 : decode cX8_back 24 = .ok (.invokevirtual 184, 3) := by decide +kernel
theorem dX8_back_27 : decode cX8_back 27 = .ok (.aload_n 0, 1) := by decide +kernel
theorem dX8_back_28 : decode cX8_back 28 = .ok (.getfield 7, 3) := by decide +kernel
theorem dX8_back_31 : decode cX8_back 31 = .ok (.bipush 15, 2) := by decide +kernel
theorem dX8_back_33 : decode cX8_back 33 = .ok (.iload_n 1, 1) := by decide +kernel
theorem dX8_back_34 : decode cX8_back 34 = .ok (.iadd, 1) := by decide +kernel
theorem dX8_back_35 : decode cX8_back 35 = .ok (.iaload, 1) := by decide +kernel
theorem dX8_back_36 : decode cX8_back 36 = .ok (.istore_n 2, 1) := by decide +kernel
theorem dX8_back_37 : decode cX8_back 37 = .ok (.aload_n 0, 1) := by decide +kernel
theorem dX8_back_38 : decode cX8_back 38 = .ok (.iconst 0, 1) := by decide +kernel
theorem dX8_back_39 : decode cX8_back 39 = .ok (.iload_n 1, 1) := by decide +kernel
theorem dX8_back_40 : decode cX8_back 40 = .ok (.invokevirtual 201, 3) := by decide +kernel
theorem dX8_back_43 : decode cX8_back 43 = .ok (.iload_n 2, 1) := by decide +kernel
theorem dX8_back_44 : decode cX8_back 44 = .ok (.ireturn, 1) := by decide +kernel
theorem dX8_onBelt_0 : decode cX8_onBelt 0 = .ok (.iconst 0, 1) := by decide +kernel
theorem dX8_onBelt_1 : decode cX8_onBelt 1 = .ok (.istore_n 2, 1) := by decide +kernel
theorem dX8_onBelt_2 : decode cX8_onBelt 2 = .ok (.iconst 0, 1) := by decide +kernel
theorem dX8_onBelt_3 : decode cX8_onBelt 3 = .ok (.istore_n 3, 1) := by decide +kernel
theorem dX8_onBelt_4 : decode cX8_onBelt 4 = .ok (.iload_n 3, 1) := by decide +kernel
theorem dX8_onBelt_5 : decode cX8_onBelt 5 = .ok (.aload_n 0, 1) := by decide +kernel
theorem dX8_onBelt_6 : decode cX8_onBelt 6 = .ok (.getfield 7, 3) := by decide +kernel
theorem dX8_onBelt_9 : decode cX8_onBelt 9 = .ok (.iload_n 1, 1) := by decide +kernel
theorem dX8_onBelt_10 : decode cX8_onBelt 10 = .ok (.iconst 1, 1) := by decide +kernel
theorem dX8_onBelt_11 : decode cX8_onBelt 11 = .ok (.iadd, 1) := by decide +kernel
theorem dX8_onBelt_12 : decode cX8_onBelt 12 = .ok (.iaload, 1) := by decide +kernel
theorem dX8_onBelt_13 : decode cX8_onBelt 13 = .ok (.if_icmp .ge 35, 3) := by decide +kernel
theorem dX8_onBelt_16 : decode cX8_onBelt 16 = .ok (.iload_n 2, 1) := by decide +kernel
theorem dX8_onBelt_17 : decode cX8_onBelt 17 = .ok (.aload_n 0, 1) := by decide +kernel
theorem dX8_onBelt_18 : decode cX8_onBelt 18 = .ok (.getfield 7, 3) := by decide +kernel
theorem dX8_onBelt_21 : decode cX8_onBelt 21 = .ok (.iload_n 1, 1) := by decide +kernel
theorem dX8_onBelt_22 : decode cX8_onBelt 22 = .ok (.bipush 33, 2) := by decide +kernel
theorem dX8_onBelt_24 : decode cX8_onBelt 24 = .ok (.iadd, 1) := by decide +kernel
theorem dX8_onBelt_25 : decode cX8_onBelt 25 = .ok (.iload_n 3, 1) := by decide +kernel
theorem dX8_onBelt_26 : decode cX8_onBelt 26 = .ok (.iadd, 1) := by decide +kernel
theorem dX8_onBelt_27 : decode cX8_onBelt 27 = .ok (.iaload, 1) := by decide +kernel
theorem dX8_onBelt_28 : decode cX8_onBelt 28 = .ok (.bipush 20, 2) := by decide +kernel
theorem dX8_onBelt_30 : decode cX8_onBelt 30 = .ok (.if_icmp .ge 9, 3) := by decide +kernel
theorem dX8_onBelt_33 : decode cX8_onBelt 33 = .ok (.iconst 1, 1) := by decide +kernel
theorem dX8_onBelt_34 : decode cX8_onBelt 34 = .ok (.iload_n 3, 1) := by decide +kernel
theorem dX8_onBelt_35 : decode cX8_onBelt 35 = .ok (.ishl, 1) := by decide +kernel
theorem dX8_onBelt_36 : decode cX8_onBelt 36 = .ok (.goto 4, 3) := by decide +kernel
theorem dX8_onBelt_39 : decode cX8_onBelt 39 = .ok (.iconst 0, 1) := by decide +kernel
theorem dX8_onBelt_40 : decode cX8_onBelt 40 = .ok (.ior, 1) := by decide +kernel
theorem dX8_onBelt_41 : decode cX8_onBelt 41 = .ok (.istore_n 2, 1) := by decide +kernel
theorem dX8_onBelt_42 : decode cX8_onBelt 42 = .ok (.iinc 3 1, 3) := by decide +kernel
theorem dX8_onBelt_45 : decode cX8_onBelt 45 = .ok (.goto (-41), 3) := by decide +kernel
theorem dX8_onBelt_48 : decode cX8_onBelt 48 = .ok (.iload_n 2, 1) := by decide +kernel
theorem dX8_onBelt_49 : decode cX8_onBelt 49 = .ok (.ireturn, 1) := by decide +kernel
theorem dX8_turn_0 : decode cX8_turn 0 = .ok (.aload_n 0, 1) := by decide +kernel
theorem dX8_turn_1 : decode cX8_turn 1 = .ok (.invokevirtual 179, 3) := by decide +kernel
theorem dX8_turn_4 : decode cX8_turn 4 = .ok (.ifCond .ne 6, 3) := by decide +kernel
theorem dX8_turn_7 : decode cX8_turn 7 = .ok (.ldc 178, 2) := by decide +kernel
theorem dX8_turn_9 : decode cX8_turn 9 = .ok (.ireturn, 1) := by decide +kernel
theorem dX8_turn_10 : decode cX8_turn 10 = .ok (.aload_n 0, 1) := by decide +kernel
theorem dX8_turn_11 : decode cX8_turn 11 = .ok (.invokevirtual 184, 3) := by decide +kernel
theorem dX8_turn_14 : decode cX8_turn 14 = .ok (.aload_n 0, 1) := by decide +kernel
theorem dX8_turn_15 : decode cX8_turn 15 = .ok (.iconst 0, 1) := by decide +kernel
theorem dX8_turn_16 : decode cX8_turn 16 = .ok (.iconst 1, 1) := by decide +kernel
theorem dX8_turn_17 : decode cX8_turn 17 = .ok (.invokevirtual 162, 3) := by decide +kernel
theorem dX8_turn_20 : decode cX8_turn 20 = .ok (.aload_n 0, 1) := by decide +kernel
theorem dX8_turn_21 : decode cX8_turn 21 = .ok (.iconst 0, 1) := by decide +kernel
theorem dX8_turn_22 : decode cX8_turn 22 = .ok (.invokevirtual 204, 3) := by decide +kernel
theorem dX8_turn_25 : decode cX8_turn 25 = .ok (.invokestatic 207, 3) := by decide +kernel
theorem dX8_turn_28 : decode cX8_turn 28 = .ok (.ireturn, 1) := by decide +kernel
theorem dX8_traveller_0 : decode cX8_traveller 0 = .ok (.aload_n 0, 1) := by decide +kernel
theorem dX8_traveller_1 : decode cX8_traveller 1 = .ok (.iload_n 1, 1) := by decide +kernel
theorem dX8_traveller_2 : decode cX8_traveller 2 = .ok (.invokevirtual 193, 3) := by decide +kernel
theorem dX8_traveller_5 : decode cX8_traveller 5 = .ok (.ifCond .ne 6, 3) := by decide +kernel
theorem dX8_traveller_8 : decode cX8_traveller 8 = .ok (.ldc 58, 2) := by decide +kernel
theorem dX8_traveller_10 : decode cX8_traveller 10 = .ok (.ireturn, 1) := by decide +kernel
theorem dX8_traveller_11 : decode cX8_traveller 11 = .ok (.iload_n 2, 1) := by decide +kernel
theorem dX8_traveller_12 : decode cX8_traveller 12 = .ok (.tableswitch 115 0 5 #[40, 50, 65, 75, 85, 100], 40) := by decide +kernel
theorem dX8_traveller_52 : decode cX8_traveller 52 = .ok (.aload_n 0, 1) := by decide +kernel
theorem dX8_traveller_53 : decode cX8_traveller 53 = .ok (.getfield 7, 3) := by decide +kernel
theorem dX8_traveller_56 : decode cX8_traveller 56 = .ok (.bipush 9, 2) := by decide +kernel
theorem dX8_traveller_58 : decode cX8_traveller 58 = .ok (.iload_n 1, 1) := by decide +kernel
theorem dX8_traveller_59 : decode cX8_traveller 59 = .ok (.iadd, 1) := by decide +kernel
theorem dX8_traveller_60 : decode cX8_traveller 60 = .ok (.iaload, 1) := by decide +kernel
theorem dX8_traveller_61 : decode cX8_traveller 61 = .ok (.ireturn, 1) := by decide +kernel
theorem dX8_traveller_62 : decode cX8_traveller 62 = .ok (.aload_n 0, 1) := by decide +kernel
theorem dX8_traveller_63 : decode cX8_traveller 63 = .ok (.iconst 0, 1) := by decide +kernel
theorem dX8_traveller_64 : decode cX8_traveller 64 = .ok (.iload_n 1, 1) := by decide +kernel
theorem dX8_traveller_65 : decode cX8_traveller 65 = .ok (.invokevirtual 141, 3) := by decide +kernel
theorem dX8_traveller_68 : decode cX8_traveller 68 = .ok (.ifCond .eq 7, 3) := by decide +kernel
theorem dX8_traveller_71 : decode cX8_traveller 71 = .ok (.iconst 1, 1) := by decide +kernel
theorem dX8_traveller_72 : decode cX8_traveller 72 = .ok (.goto 4, 3) := by decide +kernel
theorem dX8_traveller_75 : decode cX8_traveller 75 = .ok (.iconst 0, 1) := by decide +kernel
theorem dX8_traveller_76 : decode cX8_traveller 76 = .ok (.ireturn, 1) := by decide +kernel
theorem dX8_traveller_77 : decode cX8_traveller 77 = .ok (.aload_n 0, 1) := by decide +kernel
theorem dX8_traveller_78 : decode cX8_traveller 78 = .ok (.getfield 7, 3) := by decide +kernel
theorem dX8_traveller_81 : decode cX8_traveller 81 = .ok (.bipush 15, 2) := by decide +kernel
theorem dX8_traveller_83 : decode cX8_traveller 83 = .ok (.iload_n 1, 1) := by decide +kernel
theorem dX8_traveller_84 : decode cX8_traveller 84 = .ok (.iadd, 1) := by decide +kernel
theorem dX8_traveller_85 : decode cX8_traveller 85 = .ok (.iaload, 1) := by decide +kernel
theorem dX8_traveller_86 : decode cX8_traveller 86 = .ok (.ireturn, 1) := by decide +kernel
theorem dX8_traveller_87 : decode cX8_traveller 87 = .ok (.aload_n 0, 1) := by decide +kernel
theorem dX8_traveller_88 : decode cX8_traveller 88 = .ok (.getfield 7, 3) := by decide +kernel
theorem dX8_traveller_91 : decode cX8_traveller 91 = .ok (.bipush 21, 2) := by decide +kernel
theorem dX8_traveller_93 : decode cX8_traveller 93 = .ok (.iload_n 1, 1) := by decide +kernel
theorem dX8_traveller_94 : decode cX8_traveller 94 = .ok (.iadd, 1) := by decide +kernel
theorem dX8_traveller_95 : decode cX8_traveller 95 = .ok (.iaload, 1) := by decide +kernel
theorem dX8_traveller_96 : decode cX8_traveller 96 = .ok (.ireturn, 1) := by decide +kernel
theorem dX8_traveller_97 : decode cX8_traveller 97 = .ok (.aload_n 0, 1) := by decide +kernel
theorem dX8_traveller_98 : decode cX8_traveller 98 = .ok (.iconst 0, 1) := by decide +kernel
theorem dX8_traveller_99 : decode cX8_traveller 99 = .ok (.iload_n 1, 1) := by decide +kernel
theorem dX8_traveller_100 : decode cX8_traveller 100 = .ok (.invokevirtual 172, 3) := by decide +kernel
theorem dX8_traveller_103 : decode cX8_traveller 103 = .ok (.ifCond .eq 7, 3) := by decide +kernel
theorem dX8_traveller_106 : decode cX8_traveller 106 = .ok (.iconst 1, 1) := by decide +kernel
theorem dX8_traveller_107 : decode cX8_traveller 107 = .ok (.goto 4, 3) := by decide +kernel
theorem dX8_traveller_110 : decode cX8_traveller 110 = .ok (.iconst 0, 1) := by decide +kernel
theorem dX8_traveller_111 : decode cX8_traveller 111 = .ok (.ireturn, 1) := by decide +kernel
theorem dX8_traveller_112 : decode cX8_traveller 112 = .ok (.aload_n 0, 1) := by decide +kernel
theorem dX8_traveller_113 : decode cX8_traveller 113 = .ok (.iconst 0, 1) := by decide +kernel
theorem dX8_traveller_114 : decode cX8_traveller 114 = .ok (.iload_n 1, 1) := by decide +kernel
theorem dX8_traveller_115 : decode cX8_traveller 115 = .ok (.invokevirtual 175, 3) := by decide +kernel
theorem dX8_traveller_118 : decode cX8_traveller 118 = .ok (.ifCond .eq 7, 3) := by decide +kernel
theorem dX8_traveller_121 : decode cX8_traveller 121 = .ok (.iconst 1, 1) := by decide +kernel
theorem dX8_traveller_122 : decode cX8_traveller 122 = .ok (.goto 4, 3) := by decide +kernel
theorem dX8_traveller_125 : decode cX8_traveller 125 = .ok (.iconst 0, 1) := by decide +kernel
theorem dX8_traveller_126 : decode cX8_traveller 126 = .ok (.ireturn, 1) := by decide +kernel
theorem dX8_traveller_127 : decode cX8_traveller 127 = .ok (.ldc 58, 2) := by decide +kernel
theorem dX8_traveller_129 : decode cX8_traveller 129 = .ok (.ireturn, 1) := by decide +kernel
theorem dX8_bag_0 : decode cX8_bag 0 = .ok (.aload_n 0, 1) := by decide +kernel
theorem dX8_bag_1 : decode cX8_bag 1 = .ok (.iload_n 1, 1) := by decide +kernel
theorem dX8_bag_2 : decode cX8_bag 2 = .ok (.invokevirtual 193, 3) := by decide +kernel
theorem dX8_bag_5 : decode cX8_bag 5 = .ok (.ifCond .eq 13, 3) := by decide +kernel
theorem dX8_bag_8 : decode cX8_bag 8 = .ok (.iload_n 2, 1) := by decide +kernel
theorem dX8_bag_9 : decode cX8_bag 9 = .ok (.i2l, 1) := by decide +kernel
theorem dX8_bag_10 : decode cX8_bag 10 = .ok (.lconst 0, 1) := by decide +kernel
theorem dX8_bag_11 : decode cX8_bag 11 = .ok (.lconst 1, 1) := by decide +kernel
theorem dX8_bag_12 : decode cX8_bag 12 = .ok (.invokestatic 48, 3) := by decide +kernel
theorem dX8_bag_15 : decode cX8_bag 15 = .ok (.ifCond .ne 8, 3) := by decide +kernel
theorem dX8_bag_18 : decode cX8_bag 18 = .ok (.ldc 58, 2) := by decide +kernel
theorem dX8_bag_20 : decode cX8_bag 20 = .ok (.goto 28, 3) := by decide +kernel
theorem dX8_bag_23 : decode cX8_bag 23 = .ok (.iload_n 2, 1) := by decide +kernel
theorem dX8_bag_24 : decode cX8_bag 24 = .ok (.ifCond .ne 15, 3) := by decide +kernel
theorem dX8_bag_27 : decode cX8_bag 27 = .ok (.aload_n 0, 1) := by decide +kernel
theorem dX8_bag_28 : decode cX8_bag 28 = .ok (.getfield 7, 3) := by decide +kernel
theorem dX8_bag_31 : decode cX8_bag 31 = .ok (.bipush 27, 2) := by decide +kernel
theorem dX8_bag_33 : decode cX8_bag 33 = .ok (.iload_n 1, 1) := by decide +kernel
theorem dX8_bag_34 : decode cX8_bag 34 = .ok (.iadd, 1) := by decide +kernel
theorem dX8_bag_35 : decode cX8_bag 35 = .ok (.iaload, 1) := by decide +kernel
theorem dX8_bag_36 : decode cX8_bag 36 = .ok (.goto 12, 3) := by decide +kernel
theorem dX8_bag_39 : decode cX8_bag 39 = .ok (.aload_n 0, 1) := by decide +kernel
theorem dX8_bag_40 : decode cX8_bag 40 = .ok (.getfield 7, 3) := by decide +kernel
theorem dX8_bag_43 : decode cX8_bag 43 = .ok (.bipush 33, 2) := by decide +kernel
theorem dX8_bag_45 : decode cX8_bag 45 = .ok (.iload_n 1, 1) := by decide +kernel
theorem dX8_bag_46 : decode cX8_bag 46 = .ok (.iadd, 1) := by decide +kernel
theorem dX8_bag_47 : decode cX8_bag 47 = .ok (.iaload, 1) := by decide +kernel
theorem dX8_bag_48 : decode cX8_bag 48 = .ok (.ireturn, 1) := by decide +kernel
theorem dX8_takenOnes_0 : decode cX8_takenOnes 0 = .ok (.iconst 0, 1) := by decide +kernel
theorem dX8_takenOnes_1 : decode cX8_takenOnes 1 = .ok (.istore_n 1, 1) := by decide +kernel
theorem dX8_takenOnes_2 : decode cX8_takenOnes 2 = .ok (.iconst 0, 1) := by decide +kernel
theorem dX8_takenOnes_3 : decode cX8_takenOnes 3 = .ok (.istore_n 2, 1) := by decide +kernel
theorem dX8_takenOnes_4 : decode cX8_takenOnes 4 = .ok (.iload_n 2, 1) := by decide +kernel
theorem dX8_takenOnes_5 : decode cX8_takenOnes 5 = .ok (.aload_n 0, 1) := by decide +kernel
theorem dX8_takenOnes_6 : decode cX8_takenOnes 6 = .ok (.getfield 7, 3) := by decide +kernel
theorem dX8_takenOnes_9 : decode cX8_takenOnes 9 = .ok (.iconst 1, 1) := by decide +kernel
theorem dX8_takenOnes_10 : decode cX8_takenOnes 10 = .ok (.iaload, 1) := by decide +kernel
theorem dX8_takenOnes_11 : decode cX8_takenOnes 11 = .ok (.if_icmp .ge 33, 3) := by decide +kernel
theorem dX8_takenOnes_14 : decode cX8_takenOnes 14 = .ok (.iload_n 1, 1) := by decide +kernel
theorem dX8_takenOnes_15 : decode cX8_takenOnes 15 = .ok (.aload_n 0, 1) := by decide +kernel
theorem dX8_takenOnes_16 : decode cX8_takenOnes 16 = .ok (.getfield 7, 3) := by decide +kernel
theorem dX8_takenOnes_19 : decode cX8_takenOnes 19 = .ok (.bipush 33, 2) := by decide +kernel
theorem dX8_takenOnes_21 : decode cX8_takenOnes 21 = .ok (.iload_n 2, 1) := by decide +kernel
theorem dX8_takenOnes_22 : decode cX8_takenOnes 22 = .ok (.iadd, 1) := by decide +kernel
theorem dX8_takenOnes_23 : decode cX8_takenOnes 23 = .ok (.iaload, 1) := by decide +kernel
theorem dX8_takenOnes_24 : decode cX8_takenOnes 24 = .ok (.bipush 30, 2) := by decide +kernel
theorem dX8_takenOnes_26 : decode cX8_takenOnes 26 = .ok (.if_icmp .lt 9, 3) := by decide +kernel
theorem dX8_takenOnes_29 : decode cX8_takenOnes 29 = .ok (.iconst 1, 1) := by decide +kernel
theorem dX8_takenOnes_30 : decode cX8_takenOnes 30 = .ok (.iload_n 2, 1) := by decide +kernel
theorem dX8_takenOnes_31 : decode cX8_takenOnes 31 = .ok (.ishl, 1) := by decide +kernel
theorem dX8_takenOnes_32 : decode cX8_takenOnes 32 = .ok (.goto 4, 3) := by decide +kernel
theorem dX8_takenOnes_35 : decode cX8_takenOnes 35 = .ok (.iconst 0, 1) := by decide +kernel
theorem dX8_takenOnes_36 : decode cX8_takenOnes 36 = .ok (.ior, 1) := by decide +kernel
theorem dX8_takenOnes_37 : decode cX8_takenOnes 37 = .ok (.istore_n 1, 1) := by decide +kernel
theorem dX8_takenOnes_38 : decode cX8_takenOnes 38 = .ok (.iinc 2 1, 3) := by decide +kernel
theorem dX8_takenOnes_41 : decode cX8_takenOnes 41 = .ok (.goto (-37), 3) := by decide +kernel
theorem dX8_takenOnes_44 : decode cX8_takenOnes 44 = .ok (.iload_n 1, 1) := by decide +kernel
theorem dX8_takenOnes_45 : decode cX8_takenOnes 45 = .ok (.ireturn, 1) := by decide +kernel
theorem dX8_stand_0 : decode cX8_stand 0 = .ok (.aload_n 0, 1) := by decide +kernel
theorem dX8_stand_1 : decode cX8_stand 1 = .ok (.invokevirtual 179, 3) := by decide +kernel
theorem dX8_stand_4 : decode cX8_stand 4 = .ok (.ifCond .ne 6, 3) := by decide +kernel
theorem dX8_stand_7 : decode cX8_stand 7 = .ok (.ldc 178, 2) := by decide +kernel
theorem dX8_stand_9 : decode cX8_stand 9 = .ok (.ireturn, 1) := by decide +kernel
theorem dX8_stand_10 : decode cX8_stand 10 = .ok (.iconst 1, 1) := by decide +kernel
theorem dX8_stand_11 : decode cX8_stand 11 = .ok (.aload_n 0, 1) := by decide +kernel
theorem dX8_stand_12 : decode cX8_stand 12 = .ok (.getfield 7, 3) := by decide +kernel
theorem dX8_stand_15 : decode cX8_stand 15 = .ok (.iconst 1, 1) := by decide +kernel
theorem dX8_stand_16 : decode cX8_stand 16 = .ok (.iaload, 1) := by decide +kernel
theorem dX8_stand_17 : decode cX8_stand 17 = .ok (.ishl, 1) := by decide +kernel
theorem dX8_stand_18 : decode cX8_stand 18 = .ok (.iconst 1, 1) := by decide +kernel
theorem dX8_stand_19 : decode cX8_stand 19 = .ok (.isub, 1) := by decide +kernel
theorem dX8_stand_20 : decode cX8_stand 20 = .ok (.istore_n 2, 1) := by decide +kernel
theorem dX8_stand_21 : decode cX8_stand 21 = .ok (.iload_n 1, 1) := by decide +kernel
theorem dX8_stand_22 : decode cX8_stand 22 = .ok (.tableswitch 99 0 6 #[42, 49, 66, 72, 77, 87, 93], 42) := by decide +kernel
theorem dX8_stand_64 : decode cX8_stand 64 = .ok (.aload_n 0, 1) := by decide +kernel
theorem dX8_stand_65 : decode cX8_stand 65 = .ok (.getfield 7, 3) := by decide +kernel
theorem dX8_stand_68 : decode cX8_stand 68 = .ok (.iconst 0, 1) := by decide +kernel
theorem dX8_stand_69 : decode cX8_stand 69 = .ok (.iaload, 1) := by decide +kernel
theorem dX8_stand_70 : decode cX8_stand 70 = .ok (.ireturn, 1) := by decide +kernel
theorem dX8_stand_71 : decode cX8_stand 71 = .ok (.iload_n 2, 1) := by decide +kernel
theorem dX8_stand_72 : decode cX8_stand 72 = .ok (.aload_n 0, 1) := by decide +kernel
theorem dX8_stand_73 : decode cX8_stand 73 = .ok (.iconst 0, 1) := by decide +kernel
theorem dX8_stand_74 : decode cX8_stand 74 = .ok (.invokevirtual 204, 3) := by decide +kernel
theorem dX8_stand_77 : decode cX8_stand 77 = .ok (.iconst (-1), 1) := by decide +kernel
theorem dX8_stand_78 : decode cX8_stand 78 = .ok (.ixor, 1) := by decide +kernel
theorem dX8_stand_79 : decode cX8_stand 79 = .ok (.iand, 1) := by decide +kernel
theorem dX8_stand_80 : decode cX8_stand 80 = .ok (.aload_n 0, 1) := by decide +kernel
theorem dX8_stand_81 : decode cX8_stand 81 = .ok (.invokevirtual 210, 3) := by decide +kernel
theorem dX8_stand_84 : decode cX8_stand 84 = .ok (.iconst (-1), 1) := by decide +kernel
theorem dX8_stand_85 : decode cX8_stand 85 = .ok (.ixor, 1) := by decide +kernel
theorem dX8_stand_86 : decode cX8_stand 86 = .ok (.iand, 1) := by decide +kernel
theorem dX8_stand_87 : decode cX8_stand 87 = .ok (.ireturn, 1) := by decide +kernel
theorem dX8_stand_88 : decode cX8_stand 88 = .ok (.aload_n 0, 1) := by decide +kernel
theorem dX8_stand_89 : decode cX8_stand 89 = .ok (.iconst 0, 1) := by decide +kernel
theorem dX8_stand_90 : decode cX8_stand 90 = .ok (.invokevirtual 204, 3) := by decide +kernel
theorem dX8_stand_93 : decode cX8_stand 93 = .ok (.ireturn, 1) := by decide +kernel
theorem dX8_stand_94 : decode cX8_stand 94 = .ok (.aload_n 0, 1) := by decide +kernel
theorem dX8_stand_95 : decode cX8_stand 95 = .ok (.invokevirtual 210, 3) := by decide +kernel
theorem dX8_stand_98 : decode cX8_stand 98 = .ok (.ireturn, 1) := by decide +kernel
theorem dX8_stand_99 : decode cX8_stand 99 = .ok (.iload_n 2, 1) := by decide +kernel
theorem dX8_stand_100 : decode cX8_stand 100 = .ok (.aload_n 0, 1) := by decide +kernel
theorem dX8_stand_101 : decode cX8_stand 101 = .ok (.iconst 0, 1) := by decide +kernel
theorem dX8_stand_102 : decode cX8_stand 102 = .ok (.invokevirtual 190, 3) := by decide +kernel
theorem dX8_stand_105 : decode cX8_stand 105 = .ok (.iconst (-1), 1) := by decide +kernel
theorem dX8_stand_106 : decode cX8_stand 106 = .ok (.ixor, 1) := by decide +kernel
theorem dX8_stand_107 : decode cX8_stand 107 = .ok (.iand, 1) := by decide +kernel
theorem dX8_stand_108 : decode cX8_stand 108 = .ok (.ireturn, 1) := by decide +kernel
theorem dX8_stand_109 : decode cX8_stand 109 = .ok (.aload_n 0, 1) := by decide +kernel
theorem dX8_stand_110 : decode cX8_stand 110 = .ok (.iconst 0, 1) := by decide +kernel
theorem dX8_stand_111 : decode cX8_stand 111 = .ok (.invokevirtual 214, 3) := by decide +kernel
theorem dX8_stand_114 : decode cX8_stand 114 = .ok (.ireturn, 1) := by decide +kernel
theorem dX8_stand_115 : decode cX8_stand 115 = .ok (.aload_n 0, 1) := by decide +kernel
theorem dX8_stand_116 : decode cX8_stand 116 = .ok (.iconst 0, 1) := by decide +kernel
theorem dX8_stand_117 : decode cX8_stand 117 = .ok (.invokevirtual 217, 3) := by decide +kernel
theorem dX8_stand_120 : decode cX8_stand 120 = .ok (.ireturn, 1) := by decide +kernel
theorem dX8_stand_121 : decode cX8_stand 121 = .ok (.ldc 58, 2) := by decide +kernel
theorem dX8_stand_123 : decode cX8_stand 123 = .ok (.ireturn, 1) := by decide +kernel
theorem dX8_place_0 : decode cX8_place 0 = .ok (.aload_n 0, 1) := by decide +kernel
theorem dX8_place_1 : decode cX8_place 1 = .ok (.iload_n 1, 1) := by decide +kernel
theorem dX8_place_2 : decode cX8_place 2 = .ok (.invokevirtual 196, 3) := by decide +kernel
theorem dX8_place_5 : decode cX8_place 5 = .ok (.ifCond .eq 12, 3) := by decide +kernel
theorem dX8_place_8 : decode cX8_place 8 = .ok (.aload_n 0, 1) := by decide +kernel
theorem dX8_place_9 : decode cX8_place 9 = .ok (.iconst 0, 1) := by decide +kernel
theorem dX8_place_10 : decode cX8_place 10 = .ok (.iload_n 1, 1) := by decide +kernel
theorem dX8_place_11 : decode cX8_place 11 = .ok (.invokevirtual 138, 3) := by decide +kernel
theorem dX8_place_14 : decode cX8_place 14 = .ok (.goto 5, 3) := by decide +kernel
theorem dX8_place_17 : decode cX8_place 17 = .ok (.ldc 58, 2) := by decide +kernel
theorem dX8_place_19 : decode cX8_place 19 = .ok (.ireturn, 1) := by decide +kernel
theorem dX8_layTried_0 : decode cX8_layTried 0 = .ok (.aload_n 0, 1) := by decide +kernel
theorem dX8_layTried_1 : decode cX8_layTried 1 = .ok (.iconst 0, 1) := by decide +kernel
theorem dX8_layTried_2 : decode cX8_layTried 2 = .ok (.sipush 1053, 3) := by decide +kernel
theorem dX8_layTried_5 : decode cX8_layTried 5 = .ok (.invokevirtual 131, 3) := by decide +kernel
theorem dX8_layTried_8 : decode cX8_layTried 8 = .ok (.return_, 1) := by decide +kernel
theorem dX8_ahead_0 : decode cX8_ahead 0 = .ok (.aload_n 0, 1) := by decide +kernel
theorem dX8_ahead_1 : decode cX8_ahead 1 = .ok (.iload_n 1, 1) := by decide +kernel
theorem dX8_ahead_2 : decode cX8_ahead 2 = .ok (.invokevirtual 193, 3) := by decide +kernel
theorem dX8_ahead_5 : decode cX8_ahead 5 = .ok (.ifCond .eq 15, 3) := by decide +kernel
theorem dX8_ahead_8 : decode cX8_ahead 8 = .ok (.iload_n 2, 1) := by decide +kernel
theorem dX8_ahead_9 : decode cX8_ahead 9 = .ok (.i2l, 1) := by decide +kernel
theorem dX8_ahead_10 : decode cX8_ahead 10 = .ok (.lconst 0, 1) := by decide +kernel
theorem dX8_ahead_11 : decode cX8_ahead 11 = .ok (.ldc2_w 220, 3) := by decide +kernel
theorem dX8_ahead_14 : decode cX8_ahead 14 = .ok (.invokestatic 48, 3) := by decide +kernel
theorem dX8_ahead_17 : decode cX8_ahead 17 = .ok (.ifCond .ne 6, 3) := by decide +kernel
theorem dX8_ahead_20 : decode cX8_ahead 20 = .ok (.ldc 58, 2) := by decide +kernel
theorem dX8_ahead_22 : decode cX8_ahead 22 = .ok (.ireturn, 1) := by decide +kernel
theorem dX8_ahead_23 : decode cX8_ahead 23 = .ok (.aload_n 0, 1) := by decide +kernel
theorem dX8_ahead_24 : decode cX8_ahead 24 = .ok (.invokevirtual 222, 3) := by decide +kernel
theorem dX8_ahead_27 : decode cX8_ahead 27 = .ok (.aload_n 0, 1) := by decide +kernel
theorem dX8_ahead_28 : decode cX8_ahead 28 = .ok (.sipush 1053, 3) := by decide +kernel
theorem dX8_ahead_31 : decode cX8_ahead 31 = .ok (.iload_n 2, 1) := by decide +kernel
theorem dX8_ahead_32 : decode cX8_ahead 32 = .ok (.invokevirtual 187, 3) := by decide +kernel
theorem dX8_ahead_35 : decode cX8_ahead 35 = .ok (.aload_n 0, 1) := by decide +kernel
theorem dX8_ahead_36 : decode cX8_ahead 36 = .ok (.getfield 7, 3) := by decide +kernel
theorem dX8_ahead_39 : decode cX8_ahead 39 = .ok (.sipush 1086, 3) := by decide +kernel
theorem dX8_ahead_42 : decode cX8_ahead 42 = .ok (.iload_n 1, 1) := by decide +kernel
theorem dX8_ahead_43 : decode cX8_ahead 43 = .ok (.iadd, 1) := by decide +kernel
theorem dX8_ahead_44 : decode cX8_ahead 44 = .ok (.iaload, 1) := by decide +kernel
theorem dX8_ahead_45 : decode cX8_ahead 45 = .ok (.ireturn, 1) := by decide +kernel
theorem dX8_with_0 : decode cX8_with 0 = .ok (.aload_n 0, 1) := by decide +kernel
theorem dX8_with_1 : decode cX8_with 1 = .ok (.iload_n 1, 1) := by decide +kernel
theorem dX8_with_2 : decode cX8_with 2 = .ok (.invokevirtual 193, 3) := by decide +kernel
theorem dX8_with_5 : decode cX8_with 5 = .ok (.ifCond .eq 25, 3) := by decide +kernel
theorem dX8_with_8 : decode cX8_with 8 = .ok (.iload_n 2, 1) := by decide +kernel
theorem dX8_with_9 : decode cX8_with 9 = .ok (.i2l, 1) := by decide +kernel
theorem dX8_with_10 : decode cX8_with 10 = .ok (.lconst 0, 1) := by decide +kernel
theorem dX8_with_11 : decode cX8_with 11 = .ok (.ldc2_w 220, 3) := by decide +kernel
theorem dX8_with_14 : decode cX8_with 14 = .ok (.invokestatic 48, 3) := by decide +kernel
theorem dX8_with_17 : decode cX8_with 17 = .ok (.ifCond .eq 13, 3) := by decide +kernel
theorem dX8_with_20 : decode cX8_with 20 = .ok (.iload_n 3, 1) := by decide +kernel
theorem dX8_with_21 : decode cX8_with 21 = .ok (.i2l, 1) := by decide +kernel
theorem dX8_with_22 : decode cX8_with 22 = .ok (.lconst 0, 1) := by decide +kernel
theorem dX8_with_23 : decode cX8_with 23 = .ok (.lconst 1, 1) := by decide +kernel
theorem dX8_with_24 : decode cX8_with 24 = .ok (.invokestatic 48, 3) := by decide +kernel
theorem dX8_with_27 : decode cX8_with 27 = .ok (.ifCond .ne 6, 3) := by decide +kernel
theorem dX8_with_30 : decode cX8_with 30 = .ok (.ldc 58, 2) := by decide +kernel
theorem dX8_with_32 : decode cX8_with 32 = .ok (.ireturn, 1) := by decide +kernel
theorem dX8_with_33 : decode cX8_with 33 = .ok (.aload_n 0, 1) := by decide +kernel
theorem dX8_with_34 : decode cX8_with 34 = .ok (.invokevirtual 222, 3) := by decide +kernel
theorem dX8_with_37 : decode cX8_with 37 = .ok (.aload_n 0, 1) := by decide +kernel
theorem dX8_with_38 : decode cX8_with 38 = .ok (.sipush 1053, 3) := by decide +kernel
theorem dX8_with_41 : decode cX8_with 41 = .ok (.iload_n 2, 1) := by decide +kernel
theorem dX8_with_42 : decode cX8_with 42 = .ok (.invokevirtual 187, 3) := by decide +kernel
theorem dX8_with_45 : decode cX8_with 45 = .ok (.aload_n 0, 1) := by decide +kernel
theorem dX8_with_46 : decode cX8_with 46 = .ok (.getfield 7, 3) := by decide +kernel
theorem dX8_with_49 : decode cX8_with 49 = .ok (.sipush 1053, 3) := by decide +kernel
theorem dX8_with_52 : decode cX8_with 52 = .ok (.iload_n 3, 1) := by decide +kernel
theorem dX8_with_53 : decode cX8_with 53 = .ok (.ifCond .ne 8, 3) := by decide +kernel
theorem dX8_with_56 : decode cX8_with 56 = .ok (.bipush 15, 2) := by decide +kernel
theorem dX8_with_58 : decode cX8_with 58 = .ok (.goto 5, 3) := by decide +kernel
theorem dX8_with_61 : decode cX8_with 61 = .ok (.bipush 21, 2) := by decide +kernel
theorem dX8_with_63 : decode cX8_with 63 = .ok (.iadd, 1) := by decide +kernel
theorem dX8_with_64 : decode cX8_with 64 = .ok (.iload_n 1, 1) := by decide +kernel
theorem dX8_with_65 : decode cX8_with 65 = .ok (.iadd, 1) := by decide +kernel
theorem dX8_with_66 : decode cX8_with 66 = .ok (.iaload, 1) := by decide +kernel
theorem dX8_with_67 : decode cX8_with 67 = .ok (.ireturn, 1) := by decide +kernel
theorem dX8_all_0 : decode cX8_all 0 = .ok (.aload_n 0, 1) := by decide +kernel
theorem dX8_all_1 : decode cX8_all 1 = .ok (.invokevirtual 179, 3) := by decide +kernel
theorem dX8_all_4 : decode cX8_all 4 = .ok (.ifCond .ne 6, 3) := by decide +kernel
theorem dX8_all_7 : decode cX8_all 7 = .ok (.ldc 178, 2) := by decide +kernel
theorem dX8_all_9 : decode cX8_all 9 = .ok (.ireturn, 1) := by decide +kernel
theorem dX8_all_10 : decode cX8_all 10 = .ok (.iload_n 1, 1) := by decide +kernel
theorem dX8_all_11 : decode cX8_all 11 = .ok (.i2l, 1) := by decide +kernel
theorem dX8_all_12 : decode cX8_all 12 = .ok (.lconst 0, 1) := by decide +kernel
theorem dX8_all_13 : decode cX8_all 13 = .ok (.ldc2_w 220, 3) := by decide +kernel
theorem dX8_all_16 : decode cX8_all 16 = .ok (.invokestatic 48, 3) := by decide +kernel
theorem dX8_all_19 : decode cX8_all 19 = .ok (.ifCond .eq 15, 3) := by decide +kernel
theorem dX8_all_22 : decode cX8_all 22 = .ok (.iload_n 2, 1) := by decide +kernel
theorem dX8_all_23 : decode cX8_all 23 = .ok (.i2l, 1) := by decide +kernel
theorem dX8_all_24 : decode cX8_all 24 = .ok (.lconst 0, 1) := by decide +kernel
theorem dX8_all_25 : decode cX8_all 25 = .ok (.ldc2_w 56, 3) := by decide +kernel
theorem dX8_all_28 : decode cX8_all 28 = .ok (.invokestatic 48, 3) := by decide +kernel
theorem dX8_all_31 : decode cX8_all 31 = .ok (.ifCond .ne 6, 3) := by decide +kernel
theorem dX8_all_34 : decode cX8_all 34 = .ok (.ldc 58, 2) := by decide +kernel
theorem dX8_all_36 : decode cX8_all 36 = .ok (.ireturn, 1) := by decide +kernel
theorem dX8_all_37 : decode cX8_all 37 = .ok (.aload_n 0, 1) := by decide +kernel
theorem dX8_all_38 : decode cX8_all 38 = .ok (.invokevirtual 222, 3) := by decide +kernel
theorem dX8_all_41 : decode cX8_all 41 = .ok (.aload_n 0, 1) := by decide +kernel
theorem dX8_all_42 : decode cX8_all 42 = .ok (.sipush 1053, 3) := by decide +kernel
theorem dX8_all_45 : decode cX8_all 45 = .ok (.iload_n 1, 1) := by decide +kernel
theorem dX8_all_46 : decode cX8_all 46 = .ok (.invokevirtual 187, 3) := by decide +kernel
theorem dX8_all_49 : decode cX8_all 49 = .ok (.iload_n 2, 1) := by decide +kernel
theorem dX8_all_50 : decode cX8_all 50 = .ok (.ifCond .ne 13, 3) := by decide +kernel
theorem dX8_all_53 : decode cX8_all 53 = .ok (.aload_n 0, 1) := by decide +kernel
theorem dX8_all_54 : decode cX8_all 54 = .ok (.sipush 1053, 3) := by decide +kernel
theorem dX8_all_57 : decode cX8_all 57 = .ok (.invokevirtual 190, 3) := by decide +kernel
theorem dX8_all_60 : decode cX8_all 60 = .ok (.goto 25, 3) := by decide +kernel
theorem dX8_all_63 : decode cX8_all 63 = .ok (.iload_n 2, 1) := by decide +kernel
theorem dX8_all_64 : decode cX8_all 64 = .ok (.iconst 1, 1) := by decide +kernel
theorem dX8_all_65 : decode cX8_all 65 = .ok (.if_icmp .ne 13, 3) := by decide +kernel
theorem dX8_all_68 : decode cX8_all 68 = .ok (.aload_n 0, 1) := by decide +kernel
theorem dX8_all_69 : decode cX8_all 69 = .ok (.sipush 1053, 3) := by decide +kernel
theorem dX8_all_72 : decode cX8_all 72 = .ok (.invokevirtual 214, 3) := by decide +kernel
theorem dX8_all_75 : decode cX8_all 75 = .ok (.goto 10, 3) := by decide +kernel
theorem dX8_all_78 : decode cX8_all 78 = .ok (.aload_n 0, 1) := by decide +kernel
theorem dX8_all_79 : decode cX8_all 79 = .ok (.sipush 1053, 3) := by decide +kernel
theorem dX8_all_82 : decode cX8_all 82 = .ok (.invokevirtual 217, 3) := by decide +kernel
theorem dX8_all_85 : decode cX8_all 85 = .ok (.ireturn, 1) := by decide +kernel
theorem dX8_when_0 : decode cX8_when 0 = .ok (.aload_n 0, 1) := by decide +kernel
theorem dX8_when_1 : decode cX8_when 1 = .ok (.iload_n 1, 1) := by decide +kernel
theorem dX8_when_2 : decode cX8_when 2 = .ok (.invokevirtual 193, 3) := by decide +kernel
theorem dX8_when_5 : decode cX8_when 5 = .ok (.ifCond .ne 6, 3) := by decide +kernel
theorem dX8_when_8 : decode cX8_when 8 = .ok (.ldc 58, 2) := by decide +kernel
theorem dX8_when_10 : decode cX8_when 10 = .ok (.ireturn, 1) := by decide +kernel
theorem dX8_when_11 : decode cX8_when 11 = .ok (.aload_n 0, 1) := by decide +kernel
theorem dX8_when_12 : decode cX8_when 12 = .ok (.invokevirtual 222, 3) := by decide +kernel
theorem dX8_when_15 : decode cX8_when 15 = .ok (.iconst 0, 1) := by decide +kernel
theorem dX8_when_16 : decode cX8_when 16 = .ok (.istore_n 2, 1) := by decide +kernel
theorem dX8_when_17 : decode cX8_when 17 = .ok (.iload_n 2, 1) := by decide +kernel
theorem dX8_when_18 : decode cX8_when 18 = .ok (.bipush 61, 2) := by decide +kernel
theorem dX8_when_20 : decode cX8_when 20 = .ok (.if_icmp .ge 30, 3) := by decide +kernel
theorem dX8_when_23 : decode cX8_when 23 = .ok (.aload_n 0, 1) := by decide +kernel
theorem dX8_when_24 : decode cX8_when 24 = .ok (.sipush 1053, 3) := by decide +kernel
theorem dX8_when_27 : decode cX8_when 27 = .ok (.iload_n 1, 1) := by decide +kernel
theorem dX8_when_28 : decode cX8_when 28 = .ok (.invokevirtual 141, 3) := by decide +kernel
theorem dX8_when_31 : decode cX8_when 31 = .ok (.ifCond .ne 5, 3) := by decide +kernel
theorem dX8_when_34 : decode cX8_when 34 = .ok (.iload_n 2, 1) := by decide +kernel
theorem dX8_when_35 : decode cX8_when 35 = .ok (.ireturn, 1) := by decide +kernel
theorem dX8_when_36 : decode cX8_when 36 = .ok (.aload_n 0, 1) := by decide +kernel
theorem dX8_when_37 : decode cX8_when 37 = .ok (.sipush 1053, 3) := by decide +kernel
theorem dX8_when_40 : decode cX8_when 40 = .ok (.iconst 1, 1) := by decide +kernel
theorem dX8_when_41 : decode cX8_when 41 = .ok (.invokevirtual 187, 3) := by decide +kernel
theorem dX8_when_44 : decode cX8_when 44 = .ok (.iinc 2 1, 3) := by decide +kernel
theorem dX8_when_47 : decode cX8_when 47 = .ok (.goto (-30), 3) := by decide +kernel
theorem dX8_when_50 : decode cX8_when 50 = .ok (.ldc 116, 2) := by decide +kernel
theorem dX8_when_52 : decode cX8_when 52 = .ok (.ireturn, 1) := by decide +kernel
theorem dX8_empty_0 : decode cX8_empty 0 = .ok (.aload_n 0, 1) := by decide +kernel
theorem dX8_empty_1 : decode cX8_empty 1 = .ok (.invokevirtual 179, 3) := by decide +kernel
theorem dX8_empty_4 : decode cX8_empty 4 = .ok (.ifCond .ne 6, 3) := by decide +kernel
theorem dX8_empty_7 : decode cX8_empty 7 = .ok (.ldc 178, 2) := by decide +kernel
theorem dX8_empty_9 : decode cX8_empty 9 = .ok (.ireturn, 1) := by decide +kernel
theorem dX8_empty_10 : decode cX8_empty 10 = .ok (.aload_n 0, 1) := by decide +kernel
theorem dX8_empty_11 : decode cX8_empty 11 = .ok (.invokevirtual 222, 3) := by decide +kernel
theorem dX8_empty_14 : decode cX8_empty 14 = .ok (.iconst 0, 1) := by decide +kernel
theorem dX8_empty_15 : decode cX8_empty 15 = .ok (.istore_n 1, 1) := by decide +kernel
theorem dX8_empty_16 : decode cX8_empty 16 = .ok (.iload_n 1, 1) := by decide +kernel
theorem dX8_empty_17 : decode cX8_empty 17 = .ok (.bipush 61, 2) := by decide +kernel
theorem dX8_empty_19 : decode cX8_empty 19 = .ok (.if_icmp .ge 68, 3) := by decide +kernel
theorem dX8_empty_22 : decode cX8_empty 22 = .ok (.iconst 1, 1) := by decide +kernel
theorem dX8_empty_23 : decode cX8_empty 23 = .ok (.istore_n 2, 1) := by decide +kernel
theorem dX8_empty_24 : decode cX8_empty 24 = .ok (.iconst 0, 1) := by decide +kernel
theorem dX8_empty_25 : decode cX8_empty 25 = .ok (.istore_n 3, 1) := by decide +kernel
theorem dX8_empty_26 : decode cX8_empty 26 = .ok (.iload_n 3, 1) := by decide +kernel
theorem dX8_empty_27 : decode cX8_empty 27 = .ok (.aload_n 0, 1) := by decide +kernel
theorem dX8_empty_28 : decode cX8_empty 28 = .ok (.getfield 7, 3) := by decide +kernel
theorem dX8_empty_31 : decode cX8_empty 31 = .ok (.iconst 1, 1) := by decide +kernel
theorem dX8_empty_32 : decode cX8_empty 32 = .ok (.iaload, 1) := by decide +kernel
theorem dX8_empty_33 : decode cX8_empty 33 = .ok (.if_icmp .ge 34, 3) := by decide +kernel
theorem dX8_empty_36 : decode cX8_empty 36 = .ok (.iload_n 2, 1) := by decide +kernel
theorem dX8_empty_37 : decode cX8_empty 37 = .ok (.ifCond .eq 22, 3) := by decide +kernel
theorem dX8_empty_40 : decode cX8_empty 40 = .ok (.aload_n 0, 1) := by decide +kernel
theorem dX8_empty_41 : decode cX8_empty 41 = .ok (.getfield 7, 3) := by decide +kernel
theorem dX8_empty_44 : decode cX8_empty 44 = .ok (.sipush 1086, 3) := by decide +kernel
theorem dX8_empty_47 : decode cX8_empty 47 = .ok (.iload_n 3, 1) := by decide +kernel
theorem dX8_empty_48 : decode cX8_empty 48 = .ok (.iadd, 1) := by decide +kernel
theorem dX8_empty_49 : decode cX8_empty 49 = .ok (.iaload, 1) := by decide +kernel
theorem dX8_empty_50 : decode cX8_empty 50 = .ok (.bipush 30, 2) := by decide +kernel
theorem dX8_empty_52 : decode cX8_empty 52 = .ok (.if_icmp .lt 7, 3) := by decide +kernel
theorem dX8_empty_55 : decode cX8_empty 55 = .ok (.iconst 1, 1) := by decide +kernel
theorem dX8_empty_56 : decode cX8_empty 56 = .ok (.goto 4, 3) := by decide +kernel
theorem dX8_empty_59 : decode cX8_empty 59 = .ok (.iconst 0, 1) := by decide +kernel
theorem dX8_empty_60 : decode cX8_empty 60 = .ok (.istore_n 2, 1) := by decide +kernel
theorem dX8_empty_61 : decode cX8_empty 61 = .ok (.iinc 3 1, 3) := by decide +kernel
theorem dX8_empty_64 : decode cX8_empty 64 = .ok (.goto (-38), 3) := by decide +kernel
theorem dX8_empty_67 : decode cX8_empty 67 = .ok (.iload_n 2, 1) := by decide +kernel
theorem dX8_empty_68 : decode cX8_empty 68 = .ok (.ifCond .eq 5, 3) := by decide +kernel
theorem dX8_empty_71 : decode cX8_empty 71 = .ok (.iload_n 1, 1) := by decide +kernel
theorem dX8_empty_72 : decode cX8_empty 72 = .ok (.ireturn, 1) := by decide +kernel
theorem dX8_empty_73 : decode cX8_empty 73 = .ok (.aload_n 0, 1) := by decide +kernel
theorem dX8_empty_74 : decode cX8_empty 74 = .ok (.sipush 1053, 3) := by decide +kernel
theorem dX8_empty_77 : decode cX8_empty 77 = .ok (.iconst 1, 1) := by decide +kernel
theorem dX8_empty_78 : decode cX8_empty 78 = .ok (.invokevirtual 187, 3) := by decide +kernel
theorem dX8_empty_81 : decode cX8_empty 81 = .ok (.iinc 1 1, 3) := by decide +kernel
theorem dX8_empty_84 : decode cX8_empty 84 = .ok (.goto (-68), 3) := by decide +kernel
theorem dX8_empty_87 : decode cX8_empty 87 = .ok (.ldc 116, 2) := by decide +kernel
theorem dX8_empty_89 : decode cX8_empty 89 = .ok (.ireturn, 1) := by decide +kernel
theorem dX8_goneFrom_0 : decode cX8_goneFrom 0 = .ok (.aload_n 0, 1) := by decide +kernel
theorem dX8_goneFrom_1 : decode cX8_goneFrom 1 = .ok (.invokevirtual 222, 3) := by decide +kernel
theorem dX8_goneFrom_4 : decode cX8_goneFrom 4 = .ok (.aload_n 0, 1) := by decide +kernel
theorem dX8_goneFrom_5 : decode cX8_goneFrom 5 = .ok (.getfield 7, 3) := by decide +kernel
theorem dX8_goneFrom_8 : decode cX8_goneFrom 8 = .ok (.sipush 1062, 3) := by decide +kernel
theorem dX8_goneFrom_11 : decode cX8_goneFrom 11 = .ok (.iload_n 1, 1) := by decide +kernel
theorem dX8_goneFrom_12 : decode cX8_goneFrom 12 = .ok (.iadd, 1) := by decide +kernel
theorem dX8_goneFrom_13 : decode cX8_goneFrom 13 = .ok (.iload_n 2, 1) := by decide +kernel
theorem dX8_goneFrom_14 : decode cX8_goneFrom 14 = .ok (.iastore, 1) := by decide +kernel
theorem dX8_goneFrom_15 : decode cX8_goneFrom 15 = .ok (.iconst 0, 1) := by decide +kernel
theorem dX8_goneFrom_16 : decode cX8_goneFrom 16 = .ok (.istore 4, 2) := by decide +kernel
theorem dX8_goneFrom_18 : decode cX8_goneFrom 18 = .ok (.iload 4, 2) := by decide +kernel
theorem dX8_goneFrom_20 : decode cX8_goneFrom 20 = .ok (.iload_n 3, 1) := by decide +kernel
theorem dX8_goneFrom_21 : decode cX8_goneFrom 21 = .ok (.if_icmp .gt 31, 3) := by decide +kernel
theorem dX8_goneFrom_24 : decode cX8_goneFrom 24 = .ok (.aload_n 0, 1) := by decide +kernel
theorem dX8_goneFrom_25 : decode cX8_goneFrom 25 = .ok (.getfield 7, 3) := by decide +kernel
theorem dX8_goneFrom_28 : decode cX8_goneFrom 28 = .ok (.sipush 1068, 3) := by decide +kernel
theorem dX8_goneFrom_31 : decode cX8_goneFrom 31 = .ok (.iload_n 1, 1) := by decide +kernel
theorem dX8_goneFrom_32 : decode cX8_goneFrom 32 = .ok (.iadd, 1) := by decide +kernel
theorem dX8_goneFrom_33 : decode cX8_goneFrom 33 = .ok (.iaload, 1) := by decide +kernel
theorem dX8_goneFrom_34 : decode cX8_goneFrom 34 = .ok (.iload_n 1, 1) := by decide +kernel
theorem dX8_goneFrom_35 : decode cX8_goneFrom 35 = .ok (.if_icmp .eq 17, 3) := by decide +kernel
theorem dX8_goneFrom_38 : decode cX8_goneFrom 38 = .ok (.aload_n 0, 1) := by decide +kernel
theorem dX8_goneFrom_39 : decode cX8_goneFrom 39 = .ok (.sipush 1053, 3) := by decide +kernel
theorem dX8_goneFrom_42 : decode cX8_goneFrom 42 = .ok (.iconst 1, 1) := by decide +kernel
theorem dX8_goneFrom_43 : decode cX8_goneFrom 43 = .ok (.invokevirtual 187, 3) := by decide +kernel
theorem dX8_goneFrom_46 : decode cX8_goneFrom 46 = .ok (.iinc 4 1, 3) := by decide +kernel
theorem dX8_goneFrom_49 : decode cX8_goneFrom 49 = .ok (.goto (-31), 3) := by decide +kernel
theorem dX8_goneFrom_52 : decode cX8_goneFrom 52 = .ok (.iload 4, 2) := by decide +kernel
theorem dX8_goneFrom_54 : decode cX8_goneFrom 54 = .ok (.ireturn, 1) := by decide +kernel
theorem dX8_best_0 : decode cX8_best 0 = .ok (.aload_n 0, 1) := by decide +kernel
theorem dX8_best_1 : decode cX8_best 1 = .ok (.iload_n 1, 1) := by decide +kernel
theorem dX8_best_2 : decode cX8_best 2 = .ok (.invokevirtual 193, 3) := by decide +kernel
theorem dX8_best_5 : decode cX8_best 5 = .ok (.ifCond .eq 25, 3) := by decide +kernel
theorem dX8_best_8 : decode cX8_best 8 = .ok (.iload_n 2, 1) := by decide +kernel
theorem dX8_best_9 : decode cX8_best 9 = .ok (.i2l, 1) := by decide +kernel
theorem dX8_best_10 : decode cX8_best 10 = .ok (.lconst 1, 1) := by decide +kernel
theorem dX8_best_11 : decode cX8_best 11 = .ok (.ldc2_w 220, 3) := by decide +kernel
theorem dX8_best_14 : decode cX8_best 14 = .ok (.invokestatic 48, 3) := by decide +kernel
theorem dX8_best_17 : decode cX8_best 17 = .ok (.ifCond .eq 13, 3) := by decide +kernel
theorem dX8_best_20 : decode cX8_best 20 = .ok (.iload_n 3, 1) := by decide +kernel
theorem dX8_best_21 : decode cX8_best 21 = .ok (.i2l, 1) := by decide +kernel
theorem dX8_best_22 : decode cX8_best 22 = .ok (.lconst 0, 1) := by decide +kernel
theorem dX8_best_23 : decode cX8_best 23 = .ok (.lconst 1, 1) := by decide +kernel
theorem dX8_best_24 : decode cX8_best 24 = .ok (.invokestatic 48, 3) := by decide +kernel
theorem dX8_best_27 : decode cX8_best 27 = .ok (.ifCond .ne 6, 3) := by decide +kernel
theorem dX8_best_30 : decode cX8_best 30 = .ok (.ldc 58, 2) := by decide +kernel
theorem dX8_best_32 : decode cX8_best 32 = .ok (.ireturn, 1) := by decide +kernel
theorem dX8_best_33 : decode cX8_best 33 = .ok (.aload_n 0, 1) := by decide +kernel
theorem dX8_best_34 : decode cX8_best 34 = .ok (.iconst 0, 1) := by decide +kernel
theorem dX8_best_35 : decode cX8_best 35 = .ok (.iload_n 1, 1) := by decide +kernel
theorem dX8_best_36 : decode cX8_best 36 = .ok (.invokevirtual 141, 3) := by decide +kernel
theorem dX8_best_39 : decode cX8_best 39 = .ok (.ifCond .ne 6, 3) := by decide +kernel
theorem dX8_best_42 : decode cX8_best 42 = .ok (.ldc 178, 2) := by decide +kernel
theorem dX8_best_44 : decode cX8_best 44 = .ok (.ireturn, 1) := by decide +kernel
theorem dX8_best_45 : decode cX8_best 45 = .ok (.ldc 116, 2) := by decide +kernel
theorem dX8_best_47 : decode cX8_best 47 = .ok (.istore 4, 2) := by decide +kernel
theorem dX8_best_49 : decode cX8_best 49 = .ok (.iload_n 2, 1) := by decide +kernel
theorem dX8_best_50 : decode cX8_best 50 = .ok (.iconst 1, 1) := by decide +kernel
theorem dX8_best_51 : decode cX8_best 51 = .ok (.iadd, 1) := by decide +kernel
theorem dX8_best_52 : decode cX8_best 52 = .ok (.istore 5, 2) := by decide +kernel
theorem dX8_best_54 : decode cX8_best 54 = .ok (.iconst 0, 1) := by decide +kernel
theorem dX8_best_55 : decode cX8_best 55 = .ok (.istore 6, 2) := by decide +kernel
theorem dX8_best_57 : decode cX8_best 57 = .ok (.iload 6, 2) := by decide +kernel
theorem dX8_best_59 : decode cX8_best 59 = .ok (.aload_n 0, 1) := by decide +kernel
theorem dX8_best_60 : decode cX8_best 60 = .ok (.getfield 7, 3) := by decide +kernel
theorem dX8_best_63 : decode cX8_best 63 = .ok (.iconst 0, 1) := by decide +kernel
theorem dX8_best_64 : decode cX8_best 64 = .ok (.iaload, 1) := by decide +kernel
theorem dX8_best_65 : decode cX8_best 65 = .ok (.if_icmp .ge 51, 3) := by decide +kernel
theorem dX8_best_68 : decode cX8_best 68 = .ok (.aload_n 0, 1) := by decide +kernel
theorem dX8_best_69 : decode cX8_best 69 = .ok (.iload_n 1, 1) := by decide +kernel
theorem dX8_best_70 : decode cX8_best 70 = .ok (.iload 6, 2) := by decide +kernel
theorem dX8_best_72 : decode cX8_best 72 = .ok (.iload_n 2, 1) := by decide +kernel
theorem dX8_best_73 : decode cX8_best 73 = .ok (.invokevirtual 225, 3) := by decide +kernel
theorem dX8_best_76 : decode cX8_best 76 = .ok (.istore 7, 2) := by decide +kernel
theorem dX8_best_78 : decode cX8_best 78 = .ok (.iload 7, 2) := by decide +kernel
theorem dX8_best_80 : decode cX8_best 80 = .ok (.iload 5, 2) := by decide +kernel
theorem dX8_best_82 : decode cX8_best 82 = .ok (.if_icmp .ge 8, 3) := by decide +kernel
theorem dX8_best_85 : decode cX8_best 85 = .ok (.iload 6, 2) := by decide +kernel
theorem dX8_best_87 : decode cX8_best 87 = .ok (.goto 5, 3) := by decide +kernel
theorem dX8_best_90 : decode cX8_best 90 = .ok (.iload 4, 2) := by decide +kernel
theorem dX8_best_92 : decode cX8_best 92 = .ok (.istore 4, 2) := by decide +kernel
theorem dX8_best_94 : decode cX8_best 94 = .ok (.iload 7, 2) := by decide +kernel
theorem dX8_best_96 : decode cX8_best 96 = .ok (.iload 5, 2) := by decide +kernel
theorem dX8_best_98 : decode cX8_best 98 = .ok (.if_icmp .ge 8, 3) := by decide +kernel
theorem dX8_best_101 : decode cX8_best 101 = .ok (.iload 7, 2) := by decide +kernel
theorem dX8_best_103 : decode cX8_best 103 = .ok (.goto 5, 3) := by decide +kernel
theorem dX8_best_106 : decode cX8_best 106 = .ok (.iload 5, 2) := by decide +kernel
theorem dX8_best_108 : decode cX8_best 108 = .ok (.istore 5, 2) := by decide +kernel
theorem dX8_best_110 : decode cX8_best 110 = .ok (.iinc 6 1, 3) := by decide +kernel
theorem dX8_best_113 : decode cX8_best 113 = .ok (.goto (-56), 3) := by decide +kernel
theorem dX8_best_116 : decode cX8_best 116 = .ok (.iload 4, 2) := by decide +kernel
theorem dX8_best_118 : decode cX8_best 118 = .ok (.ldc 116, 2) := by decide +kernel
theorem dX8_best_120 : decode cX8_best 120 = .ok (.if_icmp .eq 7, 3) := by decide +kernel
theorem dX8_best_123 : decode cX8_best 123 = .ok (.iload_n 3, 1) := by decide +kernel
theorem dX8_best_124 : decode cX8_best 124 = .ok (.ifCond .ne 8, 3) := by decide +kernel
theorem dX8_best_127 : decode cX8_best 127 = .ok (.iload 4, 2) := by decide +kernel
theorem dX8_best_129 : decode cX8_best 129 = .ok (.goto 5, 3) := by decide +kernel
theorem dX8_best_132 : decode cX8_best 132 = .ok (.iload 5, 2) := by decide +kernel
theorem dX8_best_134 : decode cX8_best 134 = .ok (.ireturn, 1) := by decide +kernel
theorem dX8_swapRanks_0 : decode cX8_swapRanks 0 = .ok (.aload_n 0, 1) := by decide +kernel
theorem dX8_swapRanks_1 : decode cX8_swapRanks 1 = .ok (.getfield 32, 3) := by decide +kernel
theorem dX8_swapRanks_4 : decode cX8_swapRanks 4 = .ok (.iload_n 1, 1) := by decide +kernel
theorem dX8_swapRanks_5 : decode cX8_swapRanks 5 = .ok (.iaload, 1) := by decide +kernel
theorem dX8_swapRanks_6 : decode cX8_swapRanks 6 = .ok (.istore_n 3, 1) := by decide +kernel
theorem dX8_swapRanks_7 : decode cX8_swapRanks 7 = .ok (.aload_n 0, 1) := by decide +kernel
theorem dX8_swapRanks_8 : decode cX8_swapRanks 8 = .ok (.getfield 32, 3) := by decide +kernel
theorem dX8_swapRanks_11 : decode cX8_swapRanks 11 = .ok (.iload_n 1, 1) := by decide +kernel
theorem dX8_swapRanks_12 : decode cX8_swapRanks 12 = .ok (.aload_n 0, 1) := by decide +kernel
theorem dX8_swapRanks_13 : decode cX8_swapRanks 13 = .ok (.getfield 32, 3) := by decide +kernel
theorem dX8_swapRanks_16 : decode cX8_swapRanks 16 = .ok (.iload_n 2, 1) := by decide +kernel
theorem dX8_swapRanks_17 : decode cX8_swapRanks 17 = .ok (.iaload, 1) := by decide +kernel
theorem dX8_swapRanks_18 : decode cX8_swapRanks 18 = .ok (.iastore, 1) := by decide +kernel
theorem dX8_swapRanks_19 : decode cX8_swapRanks 19 = .ok (.aload_n 0, 1) := by decide +kernel
theorem dX8_swapRanks_20 : decode cX8_swapRanks 20 = .ok (.getfield 32, 3) := by decide +kernel
theorem dX8_swapRanks_23 : decode cX8_swapRanks 23 = .ok (.iload_n 2, 1) := by decide +kernel
theorem dX8_swapRanks_24 : decode cX8_swapRanks 24 = .ok (.iload_n 3, 1) := by decide +kernel
theorem dX8_swapRanks_25 : decode cX8_swapRanks 25 = .ok (.iastore, 1) := by decide +kernel
theorem dX8_swapRanks_26 : decode cX8_swapRanks 26 = .ok (.return_, 1) := by decide +kernel
theorem dX8_nextRanks_0 : decode cX8_nextRanks 0 = .ok (.iload_n 1, 1) := by decide +kernel
theorem dX8_nextRanks_1 : decode cX8_nextRanks 1 = .ok (.iconst 2, 1) := by decide +kernel
theorem dX8_nextRanks_2 : decode cX8_nextRanks 2 = .ok (.isub, 1) := by decide +kernel
theorem dX8_nextRanks_3 : decode cX8_nextRanks 3 = .ok (.istore_n 2, 1) := by decide +kernel
theorem dX8_nextRanks_4 : decode cX8_nextRanks 4 = .ok (.iload_n 2, 1) := by decide +kernel
theorem dX8_nextRanks_5 : decode cX8_nextRanks 5 = .ok (.ifCond .lt 26, 3) := by decide +kernel
theorem dX8_nextRanks_8 : decode cX8_nextRanks 8 = .ok (.aload_n 0, 1) := by decide +kernel
theorem dX8_nextRanks_9 : decode cX8_nextRanks 9 = .ok (.getfield 32, 3) := by decide +kernel
theorem dX8_nextRanks_12 : decode cX8_nextRanks 12 = .ok (.iload_n 2, 1) := by decide +kernel
theorem dX8_nextRanks_13 : decode cX8_nextRanks 13 = .ok (.iaload, 1) := by decide +kernel
theorem dX8_nextRanks_14 : decode cX8_nextRanks 14 = .ok (.aload_n 0, 1) := by decide +kernel
theorem dX8_nextRanks_15 : decode cX8_nextRanks 15 = .ok (.getfield 32, 3) := by decide +kernel
theorem dX8_nextRanks_18 : decode cX8_nextRanks 18 = .ok (.iload_n 2, 1) := by decide +kernel
theorem dX8_nextRanks_19 : decode cX8_nextRanks 19 = .ok (.iconst 1, 1) := by decide +kernel
theorem dX8_nextRanks_20 : decode cX8_nextRanks 20 = .ok (.iadd, 1) := by decide +kernel
theorem dX8_nextRanks_21 : decode cX8_nextRanks 21 = .ok (.iaload, 1) := by decide +kernel
theorem dX8_nextRanks_22 : decode cX8_nextRanks 22 = .ok (.if_icmp .le 9, 3) := by decide +kernel
theorem dX8_nextRanks_25 : decode cX8_nextRanks 25 = .ok (.iinc 2 (-1), 3) := by decide +kernel
theorem dX8_nextRanks_28 : decode cX8_nextRanks 28 = .ok (.goto (-24), 3) := by decide +kernel
theorem dX8_nextRanks_31 : decode cX8_nextRanks 31 = .ok (.iload_n 2, 1) := by decide +kernel
theorem dX8_nextRanks_32 : decode cX8_nextRanks 32 = .ok (.ifCond .ge 5, 3) := by decide +kernel
theorem dX8_nextRanks_35 : decode cX8_nextRanks 35 = .ok (.iconst 0, 1) := by decide +kernel
theorem dX8_nextRanks_36 : decode cX8_nextRanks 36 = .ok (.ireturn, 1) := by decide +kernel
theorem dX8_nextRanks_37 : decode cX8_nextRanks 37 = .ok (.iload_n 1, 1) := by decide +kernel
theorem dX8_nextRanks_38 : decode cX8_nextRanks 38 = .ok (.iconst 1, 1) := by decide +kernel
theorem dX8_nextRanks_39 : decode cX8_nextRanks 39 = .ok (.isub, 1) := by decide +kernel
theorem dX8_nextRanks_40 : decode cX8_nextRanks 40 = .ok (.istore_n 3, 1) := by decide +kernel
theorem dX8_nextRanks_41 : decode cX8_nextRanks 41 = .ok (.aload_n 0, 1) := by decide +kernel
theorem dX8_nextRanks_42 : decode cX8_nextRanks 42 = .ok (.getfield 32, 3) := by decide +kernel
theorem dX8_nextRanks_45 : decode cX8_nextRanks 45 = .ok (.iload_n 3, 1) := by decide +kernel
theorem dX8_nextRanks_46 : decode cX8_nextRanks 46 = .ok (.iaload, 1) := by decide +kernel
theorem dX8_nextRanks_47 : decode cX8_nextRanks 47 = .ok (.aload_n 0, 1) := by decide +kernel
theorem dX8_nextRanks_48 : decode cX8_nextRanks 48 = .ok (.getfield 32, 3) := by decide +kernel
theorem dX8_nextRanks_51 : decode cX8_nextRanks 51 = .ok (.iload_n 2, 1) := by decide +kernel
theorem dX8_nextRanks_52 : decode cX8_nextRanks 52 = .ok (.iaload, 1) := by decide +kernel
theorem dX8_nextRanks_53 : decode cX8_nextRanks 53 = .ok (.if_icmp .ge 9, 3) := by decide +kernel
theorem dX8_nextRanks_56 : decode cX8_nextRanks 56 = .ok (.iinc 3 (-1), 3) := by decide +kernel
theorem dX8_nextRanks_59 : decode cX8_nextRanks 59 = .ok (.goto (-18), 3) := by decide +kernel
theorem dX8_nextRanks_62 : decode cX8_nextRanks 62 = .ok (.aload_n 0, 1) := by decide +kernel
theorem dX8_nextRanks_63 : decode cX8_nextRanks 63 = .ok (.iload_n 2, 1) := by decide +kernel
theorem dX8_nextRanks_64 : decode cX8_nextRanks 64 = .ok (.iload_n 3, 1) := by decide +kernel
theorem dX8_nextRanks_65 : decode cX8_nextRanks 65 = .ok (.invokevirtual 229, 3) := by decide +kernel
theorem dX8_nextRanks_68 : decode cX8_nextRanks 68 = .ok (.iload_n 2, 1) := by decide +kernel
theorem dX8_nextRanks_69 : decode cX8_nextRanks 69 = .ok (.iconst 1, 1) := by decide +kernel
theorem dX8_nextRanks_70 : decode cX8_nextRanks 70 = .ok (.iadd, 1) := by decide +kernel
theorem dX8_nextRanks_71 : decode cX8_nextRanks 71 = .ok (.istore 4, 2) := by decide +kernel
theorem dX8_nextRanks_73 : decode cX8_nextRanks 73 = .ok (.iload_n 1, 1) := by decide +kernel
theorem dX8_nextRanks_74 : decode cX8_nextRanks 74 = .ok (.iconst 1, 1) := by decide +kernel
theorem dX8_nextRanks_75 : decode cX8_nextRanks 75 = .ok (.isub, 1) := by decide +kernel
theorem dX8_nextRanks_76 : decode cX8_nextRanks 76 = .ok (.istore 5, 2) := by decide +kernel
theorem dX8_nextRanks_78 : decode cX8_nextRanks 78 = .ok (.iload 4, 2) := by decide +kernel
theorem dX8_nextRanks_80 : decode cX8_nextRanks 80 = .ok (.iload 5, 2) := by decide +kernel
theorem dX8_nextRanks_82 : decode cX8_nextRanks 82 = .ok (.if_icmp .ge 20, 3) := by decide +kernel
theorem dX8_nextRanks_85 : decode cX8_nextRanks 85 = .ok (.aload_n 0, 1) := by decide +kernel
theorem dX8_nextRanks_86 : decode cX8_nextRanks 86 = .ok (.iload 4, 2) := by decide +kernel
theorem dX8_nextRanks_88 : decode cX8_nextRanks 88 = .ok (.iload 5, 2) := by decide +kernel
theorem dX8_nextRanks_90 : decode cX8_nextRanks 90 = .ok (.invokevirtual 229, 3) := by decide +kernel
theorem dX8_nextRanks_93 : decode cX8_nextRanks 93 = .ok (.iinc 4 1, 3) := by decide +kernel
theorem dX8_nextRanks_96 : decode cX8_nextRanks 96 = .ok (.iinc 5 (-1), 3) := by decide +kernel
theorem dX8_nextRanks_99 : decode cX8_nextRanks 99 = .ok (.goto (-21), 3) := by decide +kernel
theorem dX8_nextRanks_102 : decode cX8_nextRanks 102 = .ok (.iconst 1, 1) := by decide +kernel
theorem dX8_nextRanks_103 : decode cX8_nextRanks 103 = .ok (.ireturn, 1) := by decide +kernel
theorem dX8_order_0 : decode cX8_order 0 = .ok (.aload_n 0, 1) := by decide +kernel
theorem dX8_order_1 : decode cX8_order 1 = .ok (.invokevirtual 179, 3) := by decide +kernel
theorem dX8_order_4 : decode cX8_order 4 = .ok (.ifCond .ne 6, 3) := by decide +kernel
theorem dX8_order_7 : decode cX8_order 7 = .ok (.ldc 178, 2) := by decide +kernel
theorem dX8_order_9 : decode cX8_order 9 = .ok (.ireturn, 1) := by decide +kernel
theorem dX8_order_10 : decode cX8_order 10 = .ok (.iload_n 1, 1) := by decide +kernel
theorem dX8_order_11 : decode cX8_order 11 = .ok (.i2l, 1) := by decide +kernel
theorem dX8_order_12 : decode cX8_order 12 = .ok (.lconst 1, 1) := by decide +kernel
theorem dX8_order_13 : decode cX8_order 13 = .ok (.ldc2_w 232, 3) := by decide +kernel
theorem dX8_order_16 : decode cX8_order 16 = .ok (.invokestatic 48, 3) := by decide +kernel
theorem dX8_order_19 : decode cX8_order 19 = .ok (.ifCond .eq 8, 3) := by decide +kernel
theorem dX8_order_22 : decode cX8_order 22 = .ok (.iload_n 2, 1) := by decide +kernel
theorem dX8_order_23 : decode cX8_order 23 = .ok (.iconst (-1), 1) := by decide +kernel
theorem dX8_order_24 : decode cX8_order 24 = .ok (.if_icmp .ge 6, 3) := by decide +kernel
theorem dX8_order_27 : decode cX8_order 27 = .ok (.ldc 58, 2) := by decide +kernel
theorem dX8_order_29 : decode cX8_order 29 = .ok (.ireturn, 1) := by decide +kernel
theorem dX8_order_30 : decode cX8_order 30 = .ok (.iconst (-1), 1) := by decide +kernel
theorem dX8_order_31 : decode cX8_order 31 = .ok (.istore_n 3, 1) := by decide +kernel
theorem dX8_order_32 : decode cX8_order 32 = .ok (.iconst 0, 1) := by decide +kernel
theorem dX8_order_33 : decode cX8_order 33 = .ok (.istore 4, 2) := by decide +kernel
theorem dX8_order_35 : decode cX8_order 35 = .ok (.iconst 1, 1) := by decide +kernel
theorem dX8_order_36 : decode cX8_order 36 = .ok (.istore 5, 2) := by decide +kernel
theorem dX8_order_38 : decode cX8_order 38 = .ok (.iload 5, 2) := by decide +kernel
theorem dX8_order_40 : decode cX8_order 40 = .ok (.ifCond .eq 117, 3) := by decide +kernel
theorem dX8_order_43 : decode cX8_order 43 = .ok (.aload_n 0, 1) := by decide +kernel
theorem dX8_order_44 : decode cX8_order 44 = .ok (.invokevirtual 222, 3) := by decide +kernel
theorem dX8_order_47 : decode cX8_order 47 = .ok (.aload_n 0, 1) := by decide +kernel
theorem dX8_order_48 : decode cX8_order 48 = .ok (.sipush 1053, 3) := by decide +kernel
theorem dX8_order_51 : decode cX8_order 51 = .ok (.iload_n 1, 1) := by decide +kernel
theorem dX8_order_52 : decode cX8_order 52 = .ok (.invokevirtual 187, 3) := by decide +kernel
theorem dX8_order_55 : decode cX8_order 55 = .ok (.aload_n 0, 1) := by decide +kernel
theorem dX8_order_56 : decode cX8_order 56 = .ok (.sipush 1053, 3) := by decide +kernel
theorem dX8_order_59 : decode cX8_order 59 = .ok (.invokevirtual 190, 3) := by decide +kernel
theorem dX8_order_62 : decode cX8_order 62 = .ok (.aload_n 0, 1) := by decide +kernel
theorem dX8_order_63 : decode cX8_order 63 = .ok (.sipush 1053, 3) := by decide +kernel
theorem dX8_order_66 : decode cX8_order 66 = .ok (.invokevirtual 214, 3) := by decide +kernel
theorem dX8_order_69 : decode cX8_order 69 = .ok (.iconst (-1), 1) := by decide +kernel
theorem dX8_order_70 : decode cX8_order 70 = .ok (.ixor, 1) := by decide +kernel
theorem dX8_order_71 : decode cX8_order 71 = .ok (.iand, 1) := by decide +kernel
theorem dX8_order_72 : decode cX8_order 72 = .ok (.invokestatic 207, 3) := by decide +kernel
theorem dX8_order_75 : decode cX8_order 75 = .ok (.istore 6, 2) := by decide +kernel
theorem dX8_order_77 : decode cX8_order 77 = .ok (.aload_n 0, 1) := by decide +kernel
theorem dX8_order_78 : decode cX8_order 78 = .ok (.sipush 1053, 3) := by decide +kernel
theorem dX8_order_81 : decode cX8_order 81 = .ok (.invokevirtual 234, 3) := by decide +kernel
theorem dX8_order_84 : decode cX8_order 84 = .ok (.istore 7, 2) := by decide +kernel
theorem dX8_order_86 : decode cX8_order 86 = .ok (.iload 6, 2) := by decide +kernel
theorem dX8_order_88 : decode cX8_order 88 = .ok (.iload_n 3, 1) := by decide +kernel
theorem dX8_order_89 : decode cX8_order 89 = .ok (.if_icmp .gt 16, 3) := by decide +kernel
theorem dX8_order_92 : decode cX8_order 92 = .ok (.iload 6, 2) := by decide +kernel
theorem dX8_order_94 : decode cX8_order 94 = .ok (.iload_n 3, 1) := by decide +kernel
theorem dX8_order_95 : decode cX8_order 95 = .ok (.if_icmp .ne 47, 3) := by decide +kernel
theorem dX8_order_98 : decode cX8_order 98 = .ok (.iload 7, 2) := by decide +kernel
theorem dX8_order_100 : decode cX8_order 100 = .ok (.iload 4, 2) := by decide +kernel
theorem dX8_order_102 : decode cX8_order 102 = .ok (.if_icmp .ge 40, 3) := by decide +kernel
theorem dX8_order_105 : decode cX8_order 105 = .ok (.iload 6, 2) := by decide +kernel
theorem dX8_order_107 : decode cX8_order 107 = .ok (.istore_n 3, 1) := by decide +kernel
theorem dX8_order_108 : decode cX8_order 108 = .ok (.iload 7, 2) := by decide +kernel
theorem dX8_order_110 : decode cX8_order 110 = .ok (.istore 4, 2) := by decide +kernel
theorem dX8_order_112 : decode cX8_order 112 = .ok (.iconst 0, 1) := by decide +kernel
theorem dX8_order_113 : decode cX8_order 113 = .ok (.istore 8, 2) := by decide +kernel
theorem dX8_order_115 : decode cX8_order 115 = .ok (.iload 8, 2) := by decide +kernel
theorem dX8_order_117 : decode cX8_order 117 = .ok (.bipush 6, 2) := by decide +kernel
theorem dX8_order_119 : decode cX8_order 119 = .ok (.if_icmp .ge 23, 3) := by decide +kernel
theorem dX8_order_122 : decode cX8_order 122 = .ok (.aload_n 0, 1) := by decide +kernel
theorem dX8_order_123 : decode cX8_order 123 = .ok (.getfield 35, 3) := by decide +kernel
theorem dX8_order_126 : decode cX8_order 126 = .ok (.iload 8, 2) := by decide +kernel
theorem dX8_order_128 : decode cX8_order 128 = .ok (.aload_n 0, 1) := by decide +kernel
theorem dX8_order_129 : decode cX8_order 129 = .ok (.getfield 32, 3) := by decide +kernel
theorem dX8_order_132 : decode cX8_order 132 = .ok (.iload 8, 2) := by decide +kernel
theorem dX8_order_134 : decode cX8_order 134 = .ok (.iaload, 1) := by decide +kernel
theorem dX8_order_135 : decode cX8_order 135 = .ok (.iastore, 1) := by decide +kernel
theorem dX8_order_136 : decode cX8_order 136 = .ok (.iinc 8 1, 3) := by decide +kernel
theorem dX8_order_139 : decode cX8_order 139 = .ok (.goto (-24), 3) := by decide +kernel
theorem dX8_order_142 : decode cX8_order 142 = .ok (.aload_n 0, 1) := by decide +kernel
theorem dX8_order_143 : decode cX8_order 143 = .ok (.aload_n 0, 1) := by decide +kernel
theorem dX8_order_144 : decode cX8_order 144 = .ok (.getfield 7, 3) := by decide +kernel
theorem dX8_order_147 : decode cX8_order 147 = .ok (.iconst 1, 1) := by decide +kernel
theorem dX8_order_148 : decode cX8_order 148 = .ok (.iaload, 1) := by decide +kernel
theorem dX8_order_149 : decode cX8_order 149 = .ok (.invokevirtual 237, 3) := by decide +kernel
theorem dX8_order_152 : decode cX8_order 152 = .ok (.istore 5, 2) := by decide +kernel
theorem dX8_order_154 : decode cX8_order 154 = .ok (.goto (-116), 3) := by decide +kernel
theorem dX8_order_157 : decode cX8_order 157 = .ok (.iconst 0, 1) := by decide +kernel
theorem dX8_order_158 : decode cX8_order 158 = .ok (.istore 6, 2) := by decide +kernel
theorem dX8_order_160 : decode cX8_order 160 = .ok (.iload 6, 2) := by decide +kernel
theorem dX8_order_162 : decode cX8_order 162 = .ok (.bipush 6, 2) := by decide +kernel
theorem dX8_order_164 : decode cX8_order 164 = .ok (.if_icmp .ge 18, 3) := by decide +kernel
theorem dX8_order_167 : decode cX8_order 167 = .ok (.aload_n 0, 1) := by decide +kernel
theorem dX8_order_168 : decode cX8_order 168 = .ok (.getfield 32, 3) := by decide +kernel
theorem dX8_order_171 : decode cX8_order 171 = .ok (.iload 6, 2) := by decide +kernel
theorem dX8_order_173 : decode cX8_order 173 = .ok (.iload 6, 2) := by decide +kernel
theorem dX8_order_175 : decode cX8_order 175 = .ok (.iastore, 1) := by decide +kernel
theorem dX8_order_176 : decode cX8_order 176 = .ok (.iinc 6 1, 3) := by decide +kernel
theorem dX8_order_179 : decode cX8_order 179 = .ok (.goto (-19), 3) := by decide +kernel
theorem dX8_order_182 : decode cX8_order 182 = .ok (.iload_n 2, 1) := by decide +kernel
theorem dX8_order_183 : decode cX8_order 183 = .ok (.iconst (-1), 1) := by decide +kernel
theorem dX8_order_184 : decode cX8_order 184 = .ok (.if_icmp .ne 7, 3) := by decide +kernel
theorem dX8_order_187 : decode cX8_order 187 = .ok (.iload_n 3, 1) := by decide +kernel
theorem dX8_order_188 : decode cX8_order 188 = .ok (.goto 24, 3) := by decide +kernel
theorem dX8_order_191 : decode cX8_order 191 = .ok (.iload_n 2, 1) := by decide +kernel
theorem dX8_order_192 : decode cX8_order 192 = .ok (.aload_n 0, 1) := by decide +kernel
theorem dX8_order_193 : decode cX8_order 193 = .ok (.getfield 7, 3) := by decide +kernel
theorem dX8_order_196 : decode cX8_order 196 = .ok (.iconst 1, 1) := by decide +kernel
theorem dX8_order_197 : decode cX8_order 197 = .ok (.iaload, 1) := by decide +kernel
theorem dX8_order_198 : decode cX8_order 198 = .ok (.if_icmp .ge 12, 3) := by decide +kernel
theorem dX8_order_201 : decode cX8_order 201 = .ok (.aload_n 0, 1) := by decide +kernel
theorem dX8_order_202 : decode cX8_order 202 = .ok (.getfield 35, 3) := by decide +kernel
theorem dX8_order_205 : decode cX8_order 205 = .ok (.iload_n 2, 1) := by decide +kernel
theorem dX8_order_206 : decode cX8_order 206 = .ok (.iaload, 1) := by decide +kernel
theorem dX8_order_207 : decode cX8_order 207 = .ok (.goto 5, 3) := by decide +kernel
theorem dX8_order_210 : decode cX8_order 210 = .ok (.ldc 116, 2) := by decide +kernel
theorem dX8_order_212 : decode cX8_order 212 = .ok (.ireturn, 1) := by decide +kernel
theorem dX8_marks_0 : decode cX8_marks 0 = .ok (.aload_n 0, 1) := by decide +kernel
theorem dX8_marks_1 : decode cX8_marks 1 = .ok (.invokevirtual 179, 3) := by decide +kernel
theorem dX8_marks_4 : decode cX8_marks 4 = .ok (.ifCond .ne 6, 3) := by decide +kernel
theorem dX8_marks_7 : decode cX8_marks 7 = .ok (.ldc 178, 2) := by decide +kernel
theorem dX8_marks_9 : decode cX8_marks 9 = .ok (.ireturn, 1) := by decide +kernel
theorem dX8_marks_10 : decode cX8_marks 10 = .ok (.iload_n 1, 1) := by decide +kernel
theorem dX8_marks_11 : decode cX8_marks 11 = .ok (.i2l, 1) := by decide +kernel
theorem dX8_marks_12 : decode cX8_marks 12 = .ok (.lconst 1, 1) := by decide +kernel
theorem dX8_marks_13 : decode cX8_marks 13 = .ok (.ldc2_w 232, 3) := by decide +kernel
theorem dX8_marks_16 : decode cX8_marks 16 = .ok (.invokestatic 48, 3) := by decide +kernel
theorem dX8_marks_19 : decode cX8_marks 19 = .ok (.ifCond .eq 13, 3) := by decide +kernel
theorem dX8_marks_22 : decode cX8_marks 22 = .ok (.iload_n 2, 1) := by decide +kernel
theorem dX8_marks_23 : decode cX8_marks 23 = .ok (.i2l, 1) := by decide +kernel
theorem dX8_marks_24 : decode cX8_marks 24 = .ok (.lconst 0, 1) := by decide +kernel
theorem dX8_marks_25 : decode cX8_marks 25 = .ok (.lconst 1, 1) := by decide +kernel
theorem dX8_marks_26 : decode cX8_marks 26 = .ok (.invokestatic 48, 3) := by decide +kernel
theorem dX8_marks_29 : decode cX8_marks 29 = .ok (.ifCond .ne 6, 3) := by decide +kernel
theorem dX8_marks_32 : decode cX8_marks 32 = .ok (.ldc 58, 2) := by decide +kernel
theorem dX8_marks_34 : decode cX8_marks 34 = .ok (.ireturn, 1) := by decide +kernel
theorem dX8_marks_35 : decode cX8_marks 35 = .ok (.iconst (-1), 1) := by decide +kernel
theorem dX8_marks_36 : decode cX8_marks 36 = .ok (.istore_n 3, 1) := by decide +kernel
theorem dX8_marks_37 : decode cX8_marks 37 = .ok (.iconst 0, 1) := by decide +kernel
theorem dX8_marks_38 : decode cX8_marks 38 = .ok (.istore 4, 2) := by decide +kernel
theorem dX8_marks_40 : decode cX8_marks 40 = .ok (.iload 4, 2) := by decide +kernel
theorem dX8_marks_42 : decode cX8_marks 42 = .ok (.iconst 1, 1) := by decide +kernel
theorem dX8_marks_43 : decode cX8_marks 43 = .ok (.aload_n 0, 1) := by decide +kernel
theorem dX8_marks_44 : decode cX8_marks 44 = .ok (.getfield 7, 3) := by decide +kernel
theorem dX8_marks_47 : decode cX8_marks 47 = .ok (.iconst 1, 1) := by decide +kernel
theorem dX8_marks_48 : decode cX8_marks 48 = .ok (.iaload, 1) := by decide +kernel
theorem dX8_marks_49 : decode cX8_marks 49 = .ok (.ishl, 1) := by decide +kernel
theorem dX8_marks_50 : decode cX8_marks 50 = .ok (.if_icmp .ge 122, 3) := by decide +kernel
theorem dX8_marks_53 : decode cX8_marks 53 = .ok (.iload_n 3, 1) := by decide +kernel
theorem dX8_marks_54 : decode cX8_marks 54 = .ok (.ifCond .lt 15, 3) := by decide +kernel
theorem dX8_marks_57 : decode cX8_marks 57 = .ok (.iload 4, 2) := by decide +kernel
theorem dX8_marks_59 : decode cX8_marks 59 = .ok (.invokestatic 207, 3) := by decide +kernel
theorem dX8_marks_62 : decode cX8_marks 62 = .ok (.iload_n 3, 1) := by decide +kernel
theorem dX8_marks_63 : decode cX8_marks 63 = .ok (.invokestatic 207, 3) := by decide +kernel
theorem dX8_marks_66 : decode cX8_marks 66 = .ok (.if_icmp .ge 100, 3) := by decide +kernel
theorem dX8_marks_69 : decode cX8_marks 69 = .ok (.aload_n 0, 1) := by decide +kernel
theorem dX8_marks_70 : decode cX8_marks 70 = .ok (.invokevirtual 222, 3) := by decide +kernel
theorem dX8_marks_73 : decode cX8_marks 73 = .ok (.iconst 0, 1) := by decide +kernel
theorem dX8_marks_74 : decode cX8_marks 74 = .ok (.istore 5, 2) := by decide +kernel
theorem dX8_marks_76 : decode cX8_marks 76 = .ok (.iload 5, 2) := by decide +kernel
theorem dX8_marks_78 : decode cX8_marks 78 = .ok (.aload_n 0, 1) := by decide +kernel
theorem dX8_marks_79 : decode cX8_marks 79 = .ok (.getfield 7, 3) := by decide +kernel
theorem dX8_marks_82 : decode cX8_marks 82 = .ok (.iconst 1, 1) := by decide +kernel
theorem dX8_marks_83 : decode cX8_marks 83 = .ok (.iaload, 1) := by decide +kernel
theorem dX8_marks_84 : decode cX8_marks 84 = .ok (.if_icmp .ge 49, 3) := by decide +kernel
theorem dX8_marks_87 : decode cX8_marks 87 = .ok (.aload_n 0, 1) := by decide +kernel
theorem dX8_marks_88 : decode cX8_marks 88 = .ok (.getfield 7, 3) := by decide +kernel
theorem dX8_marks_91 : decode cX8_marks 91 = .ok (.sipush 1080, 3) := by decide +kernel
theorem dX8_marks_94 : decode cX8_marks 94 = .ok (.iload 5, 2) := by decide +kernel
theorem dX8_marks_96 : decode cX8_marks 96 = .ok (.iadd, 1) := by decide +kernel
theorem dX8_marks_97 : decode cX8_marks 97 = .ok (.iload 4, 2) := by decide +kernel
theorem dX8_marks_99 : decode cX8_marks 99 = .ok (.iload 5, 2) := by decide +kernel
theorem dX8_marks_101 : decode cX8_marks 101 = .ok (.invokestatic 150, 3) := by decide +kernel
theorem dX8_marks_104 : decode cX8_marks 104 = .ok (.ifCond .eq 11, 3) := by decide +kernel
theorem dX8_marks_107 : decode cX8_marks 107 = .ok (.bipush 10, 2) := by decide +kernel
theorem dX8_marks_109 : decode cX8_marks 109 = .ok (.iload 5, 2) := by decide +kernel
theorem dX8_marks_111 : decode cX8_marks 111 = .ok (.iadd, 1) := by decide +kernel
theorem dX8_marks_112 : decode cX8_marks 112 = .ok (.goto 14, 3) := by decide +kernel
theorem dX8_marks_115 : decode cX8_marks 115 = .ok (.aload_n 0, 1) := by decide +kernel
theorem dX8_marks_116 : decode cX8_marks 116 = .ok (.getfield 7, 3) := by decide +kernel
theorem dX8_marks_119 : decode cX8_marks 119 = .ok (.sipush 1080, 3) := by decide +kernel
theorem dX8_marks_122 : decode cX8_marks 122 = .ok (.iload 5, 2) := by decide +kernel
theorem dX8_marks_124 : decode cX8_marks 124 = .ok (.iadd, 1) := by decide +kernel
theorem dX8_marks_125 : decode cX8_marks 125 = .ok (.iaload, 1) := by decide +kernel
theorem dX8_marks_126 : decode cX8_marks 126 = .ok (.iastore, 1) := by decide +kernel
theorem dX8_marks_127 : decode cX8_marks 127 = .ok (.iinc 5 1, 3) := by decide +kernel
theorem dX8_marks_130 : decode cX8_marks 130 = .ok (.goto (-54), 3) := by decide +kernel
theorem dX8_marks_133 : decode cX8_marks 133 = .ok (.aload_n 0, 1) := by decide +kernel
theorem dX8_marks_134 : decode cX8_marks 134 = .ok (.sipush 1053, 3) := by decide +kernel
theorem dX8_marks_137 : decode cX8_marks 137 = .ok (.iload_n 1, 1) := by decide +kernel
theorem dX8_marks_138 : decode cX8_marks 138 = .ok (.invokevirtual 187, 3) := by decide +kernel
theorem dX8_marks_141 : decode cX8_marks 141 = .ok (.aload_n 0, 1) := by decide +kernel
theorem dX8_marks_142 : decode cX8_marks 142 = .ok (.sipush 1053, 3) := by decide +kernel
theorem dX8_marks_145 : decode cX8_marks 145 = .ok (.invokevirtual 214, 3) := by decide +kernel
theorem dX8_marks_148 : decode cX8_marks 148 = .ok (.aload_n 0, 1) := by decide +kernel
theorem dX8_marks_149 : decode cX8_marks 149 = .ok (.iconst 0, 1) := by decide +kernel
theorem dX8_marks_150 : decode cX8_marks 150 = .ok (.invokevirtual 214, 3) := by decide +kernel
theorem dX8_marks_153 : decode cX8_marks 153 = .ok (.iconst (-1), 1) := by decide +kernel
theorem dX8_marks_154 : decode cX8_marks 154 = .ok (.ixor, 1) := by decide +kernel
theorem dX8_marks_155 : decode cX8_marks 155 = .ok (.iand, 1) := by decide +kernel
theorem dX8_marks_156 : decode cX8_marks 156 = .ok (.ifCond .ne 8, 3) := by decide +kernel
theorem dX8_marks_159 : decode cX8_marks 159 = .ok (.iload 4, 2) := by decide +kernel
theorem dX8_marks_161 : decode cX8_marks 161 = .ok (.goto 4, 3) := by decide +kernel
theorem dX8_marks_164 : decode cX8_marks 164 = .ok (.iload_n 3, 1) := by decide +kernel
theorem dX8_marks_165 : decode cX8_marks 165 = .ok (.istore_n 3, 1) := by decide +kernel
theorem dX8_marks_166 : decode cX8_marks 166 = .ok (.iinc 4 1, 3) := by decide +kernel
theorem dX8_marks_169 : decode cX8_marks 169 = .ok (.goto (-129), 3) := by decide +kernel
theorem dX8_marks_172 : decode cX8_marks 172 = .ok (.iload_n 2, 1) := by decide +kernel
theorem dX8_marks_173 : decode cX8_marks 173 = .ok (.ifCond .ne 10, 3) := by decide +kernel
theorem dX8_marks_176 : decode cX8_marks 176 = .ok (.iload_n 3, 1) := by decide +kernel
theorem dX8_marks_177 : decode cX8_marks 177 = .ok (.invokestatic 207, 3) := by decide +kernel
theorem dX8_marks_180 : decode cX8_marks 180 = .ok (.goto 4, 3) := by decide +kernel
theorem dX8_marks_183 : decode cX8_marks 183 = .ok (.iload_n 3, 1) := by decide +kernel
theorem dX8_marks_184 : decode cX8_marks 184 = .ok (.ireturn, 1) := by decide +kernel
theorem dX8_sawOf_0 : decode cX8_sawOf 0 = .ok (.iconst 0, 1) := by decide +kernel
theorem dX8_sawOf_1 : decode cX8_sawOf 1 = .ok (.istore_n 2, 1) := by decide +kernel
theorem dX8_sawOf_2 : decode cX8_sawOf 2 = .ok (.iconst 0, 1) := by decide +kernel
theorem dX8_sawOf_3 : decode cX8_sawOf 3 = .ok (.istore_n 3, 1) := by decide +kernel
theorem dX8_sawOf_4 : decode cX8_sawOf 4 = .ok (.iload_n 3, 1) := by decide +kernel
theorem dX8_sawOf_5 : decode cX8_sawOf 5 = .ok (.aload_n 0, 1) := by decide +kernel
theorem dX8_sawOf_6 : decode cX8_sawOf 6 = .ok (.getfield 7, 3) := by decide +kernel
theorem dX8_sawOf_9 : decode cX8_sawOf 9 = .ok (.iconst 1, 1) := by decide +kernel
theorem dX8_sawOf_10 : decode cX8_sawOf 10 = .ok (.iaload, 1) := by decide +kernel
theorem dX8_sawOf_11 : decode cX8_sawOf 11 = .ok (.if_icmp .ge 33, 3) := by decide +kernel
theorem dX8_sawOf_14 : decode cX8_sawOf 14 = .ok (.iload_n 2, 1) := by decide +kernel
theorem dX8_sawOf_15 : decode cX8_sawOf 15 = .ok (.iload_n 1, 1) := by decide +kernel
theorem dX8_sawOf_16 : decode cX8_sawOf 16 = .ok (.iload_n 3, 1) := by decide +kernel
theorem dX8_sawOf_17 : decode cX8_sawOf 17 = .ok (.invokestatic 150, 3) := by decide +kernel
theorem dX8_sawOf_20 : decode cX8_sawOf 20 = .ok (.ifCond .eq 15, 3) := by decide +kernel
theorem dX8_sawOf_23 : decode cX8_sawOf 23 = .ok (.aload_n 0, 1) := by decide +kernel
theorem dX8_sawOf_24 : decode cX8_sawOf 24 = .ok (.getfield 7, 3) := by decide +kernel
theorem dX8_sawOf_27 : decode cX8_sawOf 27 = .ok (.bipush 21, 2) := by decide +kernel
theorem dX8_sawOf_29 : decode cX8_sawOf 29 = .ok (.iload_n 3, 1) := by decide +kernel
theorem dX8_sawOf_30 : decode cX8_sawOf 30 = .ok (.iadd, 1) := by decide +kernel
theorem dX8_sawOf_31 : decode cX8_sawOf 31 = .ok (.iaload, 1) := by decide +kernel
theorem dX8_sawOf_32 : decode cX8_sawOf 32 = .ok (.goto 4, 3) := by decide +kernel
theorem dX8_sawOf_35 : decode cX8_sawOf 35 = .ok (.iconst 0, 1) := by decide +kernel
theorem dX8_sawOf_36 : decode cX8_sawOf 36 = .ok (.iadd, 1) := by decide +kernel
theorem dX8_sawOf_37 : decode cX8_sawOf 37 = .ok (.istore_n 2, 1) := by decide +kernel
theorem dX8_sawOf_38 : decode cX8_sawOf 38 = .ok (.iinc 3 1, 3) := by decide +kernel
theorem dX8_sawOf_41 : decode cX8_sawOf 41 = .ok (.goto (-37), 3) := by decide +kernel
theorem dX8_sawOf_44 : decode cX8_sawOf 44 = .ok (.iload_n 2, 1) := by decide +kernel
theorem dX8_sawOf_45 : decode cX8_sawOf 45 = .ok (.ireturn, 1) := by decide +kernel
theorem dX8_sets_0 : decode cX8_sets 0 = .ok (.aload_n 0, 1) := by decide +kernel
theorem dX8_sets_1 : decode cX8_sets 1 = .ok (.invokevirtual 179, 3) := by decide +kernel
theorem dX8_sets_4 : decode cX8_sets 4 = .ok (.ifCond .ne 6, 3) := by decide +kernel
theorem dX8_sets_7 : decode cX8_sets 7 = .ok (.ldc 178, 2) := by decide +kernel
theorem dX8_sets_9 : decode cX8_sets 9 = .ok (.ireturn, 1) := by decide +kernel
theorem dX8_sets_10 : decode cX8_sets 10 = .ok (.iload_n 1, 1) := by decide +kernel
theorem dX8_sets_11 : decode cX8_sets 11 = .ok (.i2l, 1) := by decide +kernel
theorem dX8_sets_12 : decode cX8_sets 12 = .ok (.lconst 0, 1) := by decide +kernel
theorem dX8_sets_13 : decode cX8_sets 13 = .ok (.ldc2_w 240, 3) := by decide +kernel
theorem dX8_sets_16 : decode cX8_sets 16 = .ok (.invokestatic 48, 3) := by decide +kernel
theorem dX8_sets_19 : decode cX8_sets 19 = .ok (.ifCond .eq 15, 3) := by decide +kernel
theorem dX8_sets_22 : decode cX8_sets 22 = .ok (.iload_n 2, 1) := by decide +kernel
theorem dX8_sets_23 : decode cX8_sets 23 = .ok (.i2l, 1) := by decide +kernel
theorem dX8_sets_24 : decode cX8_sets 24 = .ok (.lconst 0, 1) := by decide +kernel
theorem dX8_sets_25 : decode cX8_sets 25 = .ok (.ldc2_w 56, 3) := by decide +kernel
theorem dX8_sets_28 : decode cX8_sets 28 = .ok (.invokestatic 48, 3) := by decide +kernel
theorem dX8_sets_31 : decode cX8_sets 31 = .ok (.ifCond .ne 6, 3) := by decide +kernel
theorem dX8_sets_34 : decode cX8_sets 34 = .ok (.ldc 58, 2) := by decide +kernel
theorem dX8_sets_36 : decode cX8_sets 36 = .ok (.ireturn, 1) := by decide +kernel
theorem dX8_sets_37 : decode cX8_sets 37 = .ok (.iconst 1, 1) := by decide +kernel
theorem dX8_sets_38 : decode cX8_sets 38 = .ok (.aload_n 0, 1) := by decide +kernel
theorem dX8_sets_39 : decode cX8_sets 39 = .ok (.getfield 7, 3) := by decide +kernel
theorem dX8_sets_42 : decode cX8_sets 42 = .ok (.iconst 1, 1) := by decide +kernel
theorem dX8_sets_43 : decode cX8_sets 43 = .ok (.iaload, 1) := by decide +kernel
theorem dX8_sets_44 : decode cX8_sets 44 = .ok (.ishl, 1) := by decide +kernel
theorem dX8_sets_45 : decode cX8_sets 45 = .ok (.iconst 1, 1) := by decide +kernel
theorem dX8_sets_46 : decode cX8_sets 46 = .ok (.isub, 1) := by decide +kernel
theorem dX8_sets_47 : decode cX8_sets 47 = .ok (.aload_n 0, 1) := by decide +kernel
theorem dX8_sets_48 : decode cX8_sets 48 = .ok (.iconst 0, 1) := by decide +kernel
theorem dX8_sets_49 : decode cX8_sets 49 = .ok (.invokevirtual 190, 3) := by decide +kernel
theorem dX8_sets_52 : decode cX8_sets 52 = .ok (.iconst (-1), 1) := by decide +kernel
theorem dX8_sets_53 : decode cX8_sets 53 = .ok (.ixor, 1) := by decide +kernel
theorem dX8_sets_54 : decode cX8_sets 54 = .ok (.iand, 1) := by decide +kernel
theorem dX8_sets_55 : decode cX8_sets 55 = .ok (.istore_n 3, 1) := by decide +kernel
theorem dX8_sets_56 : decode cX8_sets 56 = .ok (.iconst 0, 1) := by decide +kernel
theorem dX8_sets_57 : decode cX8_sets 57 = .ok (.istore 4, 2) := by decide +kernel
theorem dX8_sets_59 : decode cX8_sets 59 = .ok (.iload_n 3, 1) := by decide +kernel
theorem dX8_sets_60 : decode cX8_sets 60 = .ok (.istore 5, 2) := by decide +kernel
theorem dX8_sets_62 : decode cX8_sets 62 = .ok (.iconst 0, 1) := by decide +kernel
theorem dX8_sets_63 : decode cX8_sets 63 = .ok (.istore 6, 2) := by decide +kernel
theorem dX8_sets_65 : decode cX8_sets 65 = .ok (.iconst 0, 1) := by decide +kernel
theorem dX8_sets_66 : decode cX8_sets 66 = .ok (.istore 7, 2) := by decide +kernel
theorem dX8_sets_68 : decode cX8_sets 68 = .ok (.iload 7, 2) := by decide +kernel
theorem dX8_sets_70 : decode cX8_sets 70 = .ok (.iload_n 3, 1) := by decide +kernel
theorem dX8_sets_71 : decode cX8_sets 71 = .ok (.if_icmp .gt 45, 3) := by decide +kernel
theorem dX8_sets_74 : decode cX8_sets 74 = .ok (.iload 7, 2) := by decide +kernel
theorem dX8_sets_76 : decode cX8_sets 76 = .ok (.iload_n 3, 1) := by decide +kernel
theorem dX8_sets_77 : decode cX8_sets 77 = .ok (.iconst (-1), 1) := by decide +kernel
theorem dX8_sets_78 : decode cX8_sets 78 = .ok (.ixor, 1) := by decide +kernel
theorem dX8_sets_79 : decode cX8_sets 79 = .ok (.iand, 1) := by decide +kernel
theorem dX8_sets_80 : decode cX8_sets 80 = .ok (.ifCond .ne 30, 3) := by decide +kernel
theorem dX8_sets_83 : decode cX8_sets 83 = .ok (.aload_n 0, 1) := by decide +kernel
theorem dX8_sets_84 : decode cX8_sets 84 = .ok (.iload 7, 2) := by decide +kernel
theorem dX8_sets_86 : decode cX8_sets 86 = .ok (.invokevirtual 242, 3) := by decide +kernel
theorem dX8_sets_89 : decode cX8_sets 89 = .ok (.iload_n 1, 1) := by decide +kernel
theorem dX8_sets_90 : decode cX8_sets 90 = .ok (.if_icmp .ne 20, 3) := by decide +kernel
theorem dX8_sets_93 : decode cX8_sets 93 = .ok (.iinc 4 1, 3) := by decide +kernel
theorem dX8_sets_96 : decode cX8_sets 96 = .ok (.iload 5, 2) := by decide +kernel
theorem dX8_sets_98 : decode cX8_sets 98 = .ok (.iload 7, 2) := by decide +kernel
theorem dX8_sets_100 : decode cX8_sets 100 = .ok (.iand, 1) := by decide +kernel
theorem dX8_sets_101 : decode cX8_sets 101 = .ok (.istore 5, 2) := by decide +kernel
theorem dX8_sets_103 : decode cX8_sets 103 = .ok (.iload 6, 2) := by decide +kernel
theorem dX8_sets_105 : decode cX8_sets 105 = .ok (.iload 7, 2) := by decide +kernel
theorem dX8_sets_107 : decode cX8_sets 107 = .ok (.ior, 1) := by decide +kernel
theorem dX8_sets_108 : decode cX8_sets 108 = .ok (.istore 6, 2) := by decide +kernel
theorem dX8_sets_110 : decode cX8_sets 110 = .ok (.iinc 7 1, 3) := by decide +kernel
theorem dX8_sets_113 : decode cX8_sets 113 = .ok (.goto (-45), 3) := by decide +kernel
theorem dX8_sets_116 : decode cX8_sets 116 = .ok (.iload_n 2, 1) := by decide +kernel
theorem dX8_sets_117 : decode cX8_sets 117 = .ok (.ifCond .ne 8, 3) := by decide +kernel
theorem dX8_sets_120 : decode cX8_sets 120 = .ok (.iload 4, 2) := by decide +kernel
theorem dX8_sets_122 : decode cX8_sets 122 = .ok (.goto 24, 3) := by decide +kernel
theorem dX8_sets_125 : decode cX8_sets 125 = .ok (.iload_n 2, 1) := by decide +kernel
theorem dX8_sets_126 : decode cX8_sets 126 = .ok (.iconst 2, 1) := by decide +kernel
theorem dX8_sets_127 : decode cX8_sets 127 = .ok (.if_icmp .ne 8, 3) := by decide +kernel
theorem dX8_sets_130 : decode cX8_sets 130 = .ok (.iload 6, 2) := by decide +kernel
theorem dX8_sets_132 : decode cX8_sets 132 = .ok (.goto 14, 3) := by decide +kernel
theorem dX8_sets_135 : decode cX8_sets 135 = .ok (.iload 4, 2) := by decide +kernel
theorem dX8_sets_137 : decode cX8_sets 137 = .ok (.ifCond .ne 7, 3) := by decide +kernel
theorem dX8_sets_140 : decode cX8_sets 140 = .ok (.iconst 0, 1) := by decide +kernel
theorem dX8_sets_141 : decode cX8_sets 141 = .ok (.goto 5, 3) := by decide +kernel
theorem dX8_sets_144 : decode cX8_sets 144 = .ok (.iload 5, 2) := by decide +kernel
theorem dX8_sets_146 : decode cX8_sets 146 = .ok (.ireturn, 1) := by decide +kernel
theorem dX8_share_0 : decode cX8_share 0 = .ok (.aload_n 0, 1) := by decide +kernel
theorem dX8_share_1 : decode cX8_share 1 = .ok (.iload_n 1, 1) := by decide +kernel
theorem dX8_share_2 : decode cX8_share 2 = .ok (.invokevirtual 193, 3) := by decide +kernel
theorem dX8_share_5 : decode cX8_share 5 = .ok (.ifCond .eq 15, 3) := by decide +kernel
theorem dX8_share_8 : decode cX8_share 8 = .ok (.iload_n 2, 1) := by decide +kernel
theorem dX8_share_9 : decode cX8_share 9 = .ok (.i2l, 1) := by decide +kernel
theorem dX8_share_10 : decode cX8_share 10 = .ok (.lconst 0, 1) := by decide +kernel
theorem dX8_share_11 : decode cX8_share 11 = .ok (.ldc2_w 245, 3) := by decide +kernel
theorem dX8_share_14 : decode cX8_share 14 = .ok (.invokestatic 48, 3) := by decide +kernel
theorem dX8_share_17 : decode cX8_share 17 = .ok (.ifCond .ne 6, 3) := by decide +kernel
theorem dX8_share_20 : decode cX8_share 20 = .ok (.ldc 58, 2) := by decide +kernel
theorem dX8_share_22 : decode cX8_share 22 = .ok (.ireturn, 1) := by decide +kernel
theorem dX8_share_23 : decode cX8_share 23 = .ok (.aload_n 0, 1) := by decide +kernel
theorem dX8_share_24 : decode cX8_share 24 = .ok (.iconst 0, 1) := by decide +kernel
theorem dX8_share_25 : decode cX8_share 25 = .ok (.invokevirtual 234, 3) := by decide +kernel
theorem dX8_share_28 : decode cX8_share 28 = .ok (.istore_n 3, 1) := by decide +kernel
theorem dX8_share_29 : decode cX8_share 29 = .ok (.iload_n 3, 1) := by decide +kernel
theorem dX8_share_30 : decode cX8_share 30 = .ok (.ifCond .ne 5, 3) := by decide +kernel
theorem dX8_share_33 : decode cX8_share 33 = .ok (.iconst 0, 1) := by decide +kernel
theorem dX8_share_34 : decode cX8_share 34 = .ok (.ireturn, 1) := by decide +kernel
theorem dX8_share_35 : decode cX8_share 35 = .ok (.iload_n 2, 1) := by decide +kernel
theorem dX8_share_36 : decode cX8_share 36 = .ok (.istore 4, 2) := by decide +kernel
theorem dX8_share_38 : decode cX8_share 38 = .ok (.iconst 0, 1) := by decide +kernel
theorem dX8_share_39 : decode cX8_share 39 = .ok (.istore 5, 2) := by decide +kernel
theorem dX8_share_41 : decode cX8_share 41 = .ok (.iconst 0, 1) := by decide +kernel
theorem dX8_share_42 : decode cX8_share 42 = .ok (.istore 6, 2) := by decide +kernel
theorem dX8_share_44 : decode cX8_share 44 = .ok (.iload 6, 2) := by decide +kernel
theorem dX8_share_46 : decode cX8_share 46 = .ok (.aload_n 0, 1) := by decide +kernel
theorem dX8_share_47 : decode cX8_share 47 = .ok (.getfield 7, 3) := by decide +kernel
theorem dX8_share_50 : decode cX8_share 50 = .ok (.iconst 1, 1) := by decide +kernel
theorem dX8_share_51 : decode cX8_share 51 = .ok (.iaload, 1) := by decide +kernel
theorem dX8_share_52 : decode cX8_share 52 = .ok (.if_icmp .ge 57, 3) := by decide +kernel
theorem dX8_share_55 : decode cX8_share 55 = .ok (.iload 4, 2) := by decide +kernel
theorem dX8_share_57 : decode cX8_share 57 = .ok (.iload_n 2, 1) := by decide +kernel
theorem dX8_share_58 : decode cX8_share 58 = .ok (.aload_n 0, 1) := by decide +kernel
theorem dX8_share_59 : decode cX8_share 59 = .ok (.getfield 7, 3) := by decide +kernel
theorem dX8_share_62 : decode cX8_share 62 = .ok (.bipush 21, 2) := by decide +kernel
theorem dX8_share_64 : decode cX8_share 64 = .ok (.iload 6, 2) := by decide +kernel
theorem dX8_share_66 : decode cX8_share 66 = .ok (.iadd, 1) := by decide +kernel
theorem dX8_share_67 : decode cX8_share 67 = .ok (.iaload, 1) := by decide +kernel
theorem dX8_share_68 : decode cX8_share 68 = .ok (.imul, 1) := by decide +kernel
theorem dX8_share_69 : decode cX8_share 69 = .ok (.iload_n 3, 1) := by decide +kernel
theorem dX8_share_70 : decode cX8_share 70 = .ok (.idiv, 1) := by decide +kernel
theorem dX8_share_71 : decode cX8_share 71 = .ok (.isub, 1) := by decide +kernel
theorem dX8_share_72 : decode cX8_share 72 = .ok (.istore 4, 2) := by decide +kernel
theorem dX8_share_74 : decode cX8_share 74 = .ok (.iload 5, 2) := by decide +kernel
theorem dX8_share_76 : decode cX8_share 76 = .ok (.iload 6, 2) := by decide +kernel
theorem dX8_share_78 : decode cX8_share 78 = .ok (.iload_n 1, 1) := by decide +kernel
theorem dX8_share_79 : decode cX8_share 79 = .ok (.if_icmp .ge 20, 3) := by decide +kernel
theorem dX8_share_82 : decode cX8_share 82 = .ok (.aload_n 0, 1) := by decide +kernel
theorem dX8_share_83 : decode cX8_share 83 = .ok (.getfield 7, 3) := by decide +kernel
theorem dX8_share_86 : decode cX8_share 86 = .ok (.bipush 21, 2) := by decide +kernel
theorem dX8_share_88 : decode cX8_share 88 = .ok (.iload 6, 2) := by decide +kernel
theorem dX8_share_90 : decode cX8_share 90 = .ok (.iadd, 1) := by decide +kernel
theorem dX8_share_91 : decode cX8_share 91 = .ok (.iaload, 1) := by decide +kernel
theorem dX8_share_92 : decode cX8_share 92 = .ok (.ifCond .le 7, 3) := by decide +kernel
theorem dX8_share_95 : decode cX8_share 95 = .ok (.iconst 1, 1) := by decide +kernel
theorem dX8_share_96 : decode cX8_share 96 = .ok (.goto 4, 3) := by decide +kernel
theorem dX8_share_99 : decode cX8_share 99 = .ok (.iconst 0, 1) := by decide +kernel
theorem dX8_share_100 : decode cX8_share 100 = .ok (.iadd, 1) := by decide +kernel
theorem dX8_share_101 : decode cX8_share 101 = .ok (.istore 5, 2) := by decide +kernel
theorem dX8_share_103 : decode cX8_share 103 = .ok (.iinc 6 1, 3) := by decide +kernel
theorem dX8_share_106 : decode cX8_share 106 = .ok (.goto (-62), 3) := by decide +kernel
theorem dX8_share_109 : decode cX8_share 109 = .ok (.iload_n 2, 1) := by decide +kernel
theorem dX8_share_110 : decode cX8_share 110 = .ok (.aload_n 0, 1) := by decide +kernel
theorem dX8_share_111 : decode cX8_share 111 = .ok (.getfield 7, 3) := by decide +kernel
theorem dX8_share_114 : decode cX8_share 114 = .ok (.bipush 21, 2) := by decide +kernel
theorem dX8_share_116 : decode cX8_share 116 = .ok (.iload_n 1, 1) := by decide +kernel
theorem dX8_share_117 : decode cX8_share 117 = .ok (.iadd, 1) := by decide +kernel
theorem dX8_share_118 : decode cX8_share 118 = .ok (.iaload, 1) := by decide +kernel
theorem dX8_share_119 : decode cX8_share 119 = .ok (.imul, 1) := by decide +kernel
theorem dX8_share_120 : decode cX8_share 120 = .ok (.iload_n 3, 1) := by decide +kernel
theorem dX8_share_121 : decode cX8_share 121 = .ok (.idiv, 1) := by decide +kernel
theorem dX8_share_122 : decode cX8_share 122 = .ok (.aload_n 0, 1) := by decide +kernel
theorem dX8_share_123 : decode cX8_share 123 = .ok (.getfield 7, 3) := by decide +kernel
theorem dX8_share_126 : decode cX8_share 126 = .ok (.bipush 21, 2) := by decide +kernel
theorem dX8_share_128 : decode cX8_share 128 = .ok (.iload_n 1, 1) := by decide +kernel
theorem dX8_share_129 : decode cX8_share 129 = .ok (.iadd, 1) := by decide +kernel
theorem dX8_share_130 : decode cX8_share 130 = .ok (.iaload, 1) := by decide +kernel
theorem dX8_share_131 : decode cX8_share 131 = .ok (.ifCond .le 14, 3) := by decide +kernel
theorem dX8_share_134 : decode cX8_share 134 = .ok (.iload 5, 2) := by decide +kernel
theorem dX8_share_136 : decode cX8_share 136 = .ok (.iload 4, 2) := by decide +kernel
theorem dX8_share_138 : decode cX8_share 138 = .ok (.if_icmp .ge 7, 3) := by decide +kernel
theorem dX8_share_141 : decode cX8_share 141 = .ok (.iconst 1, 1) := by decide +kernel
theorem dX8_share_142 : decode cX8_share 142 = .ok (.goto 4, 3) := by decide +kernel
theorem dX8_share_145 : decode cX8_share 145 = .ok (.iconst 0, 1) := by decide +kernel
theorem dX8_share_146 : decode cX8_share 146 = .ok (.iadd, 1) := by decide +kernel
theorem dX8_share_147 : decode cX8_share 147 = .ok (.ireturn, 1) := by decide +kernel
theorem dX8_byTurns_0 : decode cX8_byTurns 0 = .ok (.aload_n 0, 1) := by decide +kernel
theorem dX8_byTurns_1 : decode cX8_byTurns 1 = .ok (.invokevirtual 179, 3) := by decide +kernel
theorem dX8_byTurns_4 : decode cX8_byTurns 4 = .ok (.ifCond .ne 6, 3) := by decide +kernel
theorem dX8_byTurns_7 : decode cX8_byTurns 7 = .ok (.ldc 178, 2) := by decide +kernel
theorem dX8_byTurns_9 : decode cX8_byTurns 9 = .ok (.ireturn, 1) := by decide +kernel
theorem dX8_byTurns_10 : decode cX8_byTurns 10 = .ok (.iload_n 1, 1) := by decide +kernel
theorem dX8_byTurns_11 : decode cX8_byTurns 11 = .ok (.i2l, 1) := by decide +kernel
theorem dX8_byTurns_12 : decode cX8_byTurns 12 = .ok (.lconst 0, 1) := by decide +kernel
theorem dX8_byTurns_13 : decode cX8_byTurns 13 = .ok (.ldc2_w 247, 3) := by decide +kernel
theorem dX8_byTurns_16 : decode cX8_byTurns 16 = .ok (.invokestatic 48, 3) := by decide +kernel
theorem dX8_byTurns_19 : decode cX8_byTurns 19 = .ok (.ifCond .eq 15, 3) := by decide +kernel
theorem dX8_byTurns_22 : decode cX8_byTurns 22 = .ok (.iload_n 2, 1) := by decide +kernel
theorem dX8_byTurns_23 : decode cX8_byTurns 23 = .ok (.i2l, 1) := by decide +kernel
theorem dX8_byTurns_24 : decode cX8_byTurns 24 = .ok (.lconst 1, 1) := by decide +kernel
theorem dX8_byTurns_25 : decode cX8_byTurns 25 = .ok (.ldc2_w 114, 3) := by decide +kernel
theorem dX8_byTurns_28 : decode cX8_byTurns 28 = .ok (.invokestatic 48, 3) := by decide +kernel
theorem dX8_byTurns_31 : decode cX8_byTurns 31 = .ok (.ifCond .ne 6, 3) := by decide +kernel
theorem dX8_byTurns_34 : decode cX8_byTurns 34 = .ok (.ldc 58, 2) := by decide +kernel
theorem dX8_byTurns_36 : decode cX8_byTurns 36 = .ok (.ireturn, 1) := by decide +kernel
theorem dX8_byTurns_37 : decode cX8_byTurns 37 = .ok (.iconst 0, 1) := by decide +kernel
theorem dX8_byTurns_38 : decode cX8_byTurns 38 = .ok (.istore_n 3, 1) := by decide +kernel
theorem dX8_byTurns_39 : decode cX8_byTurns 39 = .ok (.iload_n 3, 1) := by decide +kernel
theorem dX8_byTurns_40 : decode cX8_byTurns 40 = .ok (.iconst 1, 1) := by decide +kernel
theorem dX8_byTurns_41 : decode cX8_byTurns 41 = .ok (.iload_n 1, 1) := by decide +kernel
theorem dX8_byTurns_42 : decode cX8_byTurns 42 = .ok (.ishl, 1) := by decide +kernel
theorem dX8_byTurns_43 : decode cX8_byTurns 43 = .ok (.if_icmp .ge 84, 3) := by decide +kernel
theorem dX8_byTurns_46 : decode cX8_byTurns 46 = .ok (.aload_n 0, 1) := by decide +kernel
theorem dX8_byTurns_47 : decode cX8_byTurns 47 = .ok (.invokevirtual 222, 3) := by decide +kernel
theorem dX8_byTurns_50 : decode cX8_byTurns 50 = .ok (.iconst 0, 1) := by decide +kernel
theorem dX8_byTurns_51 : decode cX8_byTurns 51 = .ok (.istore 4, 2) := by decide +kernel
theorem dX8_byTurns_53 : decode cX8_byTurns 53 = .ok (.iload 4, 2) := by decide +kernel
theorem dX8_byTurns_55 : decode cX8_byTurns 55 = .ok (.iload_n 1, 1) := by decide +kernel
theorem dX8_byTurns_56 : decode cX8_byTurns 56 = .ok (.if_icmp .ge 41, 3) := by decide +kernel
theorem dX8_byTurns_59 : decode cX8_byTurns 59 = .ok (.iload_n 3, 1) := by decide +kernel
theorem dX8_byTurns_60 : decode cX8_byTurns 60 = .ok (.iload_n 1, 1) := by decide +kernel
theorem dX8_byTurns_61 : decode cX8_byTurns 61 = .ok (.iconst 1, 1) := by decide +kernel
theorem dX8_byTurns_62 : decode cX8_byTurns 62 = .ok (.isub, 1) := by decide +kernel
theorem dX8_byTurns_63 : decode cX8_byTurns 63 = .ok (.iload 4, 2) := by decide +kernel
theorem dX8_byTurns_65 : decode cX8_byTurns 65 = .ok (.isub, 1) := by decide +kernel
theorem dX8_byTurns_66 : decode cX8_byTurns 66 = .ok (.invokestatic 150, 3) := by decide +kernel
theorem dX8_byTurns_69 : decode cX8_byTurns 69 = .ok (.ifCond .eq 22, 3) := by decide +kernel
theorem dX8_byTurns_72 : decode cX8_byTurns 72 = .ok (.aload_n 0, 1) := by decide +kernel
theorem dX8_byTurns_73 : decode cX8_byTurns 73 = .ok (.sipush 1053, 3) := by decide +kernel
theorem dX8_byTurns_76 : decode cX8_byTurns 76 = .ok (.iload 4, 2) := by decide +kernel
theorem dX8_byTurns_78 : decode cX8_byTurns 78 = .ok (.iconst 2, 1) := by decide +kernel
theorem dX8_byTurns_79 : decode cX8_byTurns 79 = .ok (.irem, 1) := by decide +kernel
theorem dX8_byTurns_80 : decode cX8_byTurns 80 = .ok (.ifCond .ne 7, 3) := by decide +kernel
theorem dX8_byTurns_83 : decode cX8_byTurns 83 = .ok (.iconst 1, 1) := by decide +kernel
theorem dX8_byTurns_84 : decode cX8_byTurns 84 = .ok (.goto 4, 3) := by decide +kernel
theorem dX8_byTurns_87 : decode cX8_byTurns 87 = .ok (.iconst (-1), 1) := by decide +kernel
theorem dX8_byTurns_88 : decode cX8_byTurns 88 = .ok (.invokevirtual 162, 3) := by decide +kernel
theorem dX8_byTurns_91 : decode cX8_byTurns 91 = .ok (.iinc 4 1, 3) := by decide +kernel
theorem dX8_byTurns_94 : decode cX8_byTurns 94 = .ok (.goto (-41), 3) := by decide +kernel
theorem dX8_byTurns_97 : decode cX8_byTurns 97 = .ok (.aload_n 0, 1) := by decide +kernel
theorem dX8_byTurns_98 : decode cX8_byTurns 98 = .ok (.sipush 1053, 3) := by decide +kernel
theorem dX8_byTurns_101 : decode cX8_byTurns 101 = .ok (.iload_n 2, 1) := by decide +kernel
theorem dX8_byTurns_102 : decode cX8_byTurns 102 = .ok (.invokevirtual 187, 3) := by decide +kernel
theorem dX8_byTurns_105 : decode cX8_byTurns 105 = .ok (.aload_n 0, 1) := by decide +kernel
theorem dX8_byTurns_106 : decode cX8_byTurns 106 = .ok (.getfield 38, 3) := by decide +kernel
theorem dX8_byTurns_109 : decode cX8_byTurns 109 = .ok (.iload_n 3, 1) := by decide +kernel
theorem dX8_byTurns_110 : decode cX8_byTurns 110 = .ok (.aload_n 0, 1) := by decide +kernel
theorem dX8_byTurns_111 : decode cX8_byTurns 111 = .ok (.sipush 1053, 3) := by decide +kernel
theorem dX8_byTurns_114 : decode cX8_byTurns 114 = .ok (.invokevirtual 190, 3) := by decide +kernel
theorem dX8_byTurns_117 : decode cX8_byTurns 117 = .ok (.invokestatic 207, 3) := by decide +kernel
theorem dX8_byTurns_120 : decode cX8_byTurns 120 = .ok (.iastore, 1) := by decide +kernel
theorem dX8_byTurns_121 : decode cX8_byTurns 121 = .ok (.iinc 3 1, 3) := by decide +kernel
theorem dX8_byTurns_124 : decode cX8_byTurns 124 = .ok (.goto (-85), 3) := by decide +kernel
theorem dX8_byTurns_127 : decode cX8_byTurns 127 = .ok (.iload_n 1, 1) := by decide +kernel
theorem dX8_byTurns_128 : decode cX8_byTurns 128 = .ok (.iconst 1, 1) := by decide +kernel
theorem dX8_byTurns_129 : decode cX8_byTurns 129 = .ok (.isub, 1) := by decide +kernel
theorem dX8_byTurns_130 : decode cX8_byTurns 130 = .ok (.istore_n 3, 1) := by decide +kernel
theorem dX8_byTurns_131 : decode cX8_byTurns 131 = .ok (.iload_n 3, 1) := by decide +kernel
theorem dX8_byTurns_132 : decode cX8_byTurns 132 = .ok (.ifCond .lt 102, 3) := by decide +kernel
theorem dX8_byTurns_135 : decode cX8_byTurns 135 = .ok (.iconst 0, 1) := by decide +kernel
theorem dX8_byTurns_136 : decode cX8_byTurns 136 = .ok (.istore 4, 2) := by decide +kernel
theorem dX8_byTurns_138 : decode cX8_byTurns 138 = .ok (.iload 4, 2) := by decide +kernel
theorem dX8_byTurns_140 : decode cX8_byTurns 140 = .ok (.iconst 1, 1) := by decide +kernel
theorem dX8_byTurns_141 : decode cX8_byTurns 141 = .ok (.iload_n 3, 1) := by decide +kernel
theorem dX8_byTurns_142 : decode cX8_byTurns 142 = .ok (.ishl, 1) := by decide +kernel
theorem dX8_byTurns_143 : decode cX8_byTurns 143 = .ok (.if_icmp .ge 85, 3) := by decide +kernel
theorem dX8_byTurns_146 : decode cX8_byTurns 146 = .ok (.aload_n 0, 1) := by decide +kernel
theorem dX8_byTurns_147 : decode cX8_byTurns 147 = .ok (.getfield 38, 3) := by decide +kernel
theorem dX8_byTurns_150 : decode cX8_byTurns 150 = .ok (.iconst 2, 1) := by decide +kernel
theorem dX8_byTurns_151 : decode cX8_byTurns 151 = .ok (.iload 4, 2) := by decide +kernel
theorem dX8_byTurns_153 : decode cX8_byTurns 153 = .ok (.imul, 1) := by decide +kernel
theorem dX8_byTurns_154 : decode cX8_byTurns 154 = .ok (.iconst 1, 1) := by decide +kernel
theorem dX8_byTurns_155 : decode cX8_byTurns 155 = .ok (.iadd, 1) := by decide +kernel
theorem dX8_byTurns_156 : decode cX8_byTurns 156 = .ok (.iaload, 1) := by decide +kernel
theorem dX8_byTurns_157 : decode cX8_byTurns 157 = .ok (.aload_n 0, 1) := by decide +kernel
theorem dX8_byTurns_158 : decode cX8_byTurns 158 = .ok (.getfield 38, 3) := by decide +kernel
theorem dX8_byTurns_161 : decode cX8_byTurns 161 = .ok (.iconst 2, 1) := by decide +kernel
theorem dX8_byTurns_162 : decode cX8_byTurns 162 = .ok (.iload 4, 2) := by decide +kernel
theorem dX8_byTurns_164 : decode cX8_byTurns 164 = .ok (.imul, 1) := by decide +kernel
theorem dX8_byTurns_165 : decode cX8_byTurns 165 = .ok (.iaload, 1) := by decide +kernel
theorem dX8_byTurns_166 : decode cX8_byTurns 166 = .ok (.if_icmp .le 7, 3) := by decide +kernel
theorem dX8_byTurns_169 : decode cX8_byTurns 169 = .ok (.iconst 1, 1) := by decide +kernel
theorem dX8_byTurns_170 : decode cX8_byTurns 170 = .ok (.goto 4, 3) := by decide +kernel
theorem dX8_byTurns_173 : decode cX8_byTurns 173 = .ok (.iconst 0, 1) := by decide +kernel
theorem dX8_byTurns_174 : decode cX8_byTurns 174 = .ok (.istore 5, 2) := by decide +kernel
theorem dX8_byTurns_176 : decode cX8_byTurns 176 = .ok (.aload_n 0, 1) := by decide +kernel
theorem dX8_byTurns_177 : decode cX8_byTurns 177 = .ok (.getfield 38, 3) := by decide +kernel
theorem dX8_byTurns_180 : decode cX8_byTurns 180 = .ok (.iload 4, 2) := by decide +kernel
theorem dX8_byTurns_182 : decode cX8_byTurns 182 = .ok (.iload 5, 2) := by decide +kernel
theorem dX8_byTurns_184 : decode cX8_byTurns 184 = .ok (.iload_n 3, 1) := by decide +kernel
theorem dX8_byTurns_185 : decode cX8_byTurns 185 = .ok (.iconst 2, 1) := by decide +kernel
theorem dX8_byTurns_186 : decode cX8_byTurns 186 = .ok (.irem, 1) := by decide +kernel
theorem dX8_byTurns_187 : decode cX8_byTurns 187 = .ok (.ifCond .ne 7, 3) := by decide +kernel
theorem dX8_byTurns_190 : decode cX8_byTurns 190 = .ok (.iconst 1, 1) := by decide +kernel
theorem dX8_byTurns_191 : decode cX8_byTurns 191 = .ok (.goto 4, 3) := by decide +kernel
theorem dX8_byTurns_194 : decode cX8_byTurns 194 = .ok (.iconst 0, 1) := by decide +kernel
theorem dX8_byTurns_195 : decode cX8_byTurns 195 = .ok (.if_icmp .ne 17, 3) := by decide +kernel
theorem dX8_byTurns_198 : decode cX8_byTurns 198 = .ok (.aload_n 0, 1) := by decide +kernel
theorem dX8_byTurns_199 : decode cX8_byTurns 199 = .ok (.getfield 38, 3) := by decide +kernel
theorem dX8_byTurns_202 : decode cX8_byTurns 202 = .ok (.iconst 2, 1) := by decide +kernel
theorem dX8_byTurns_203 : decode cX8_byTurns 203 = .ok (.iload 4, 2) := by decide +kernel
theorem dX8_byTurns_205 : decode cX8_byTurns 205 = .ok (.imul, 1) := by decide +kernel
theorem dX8_byTurns_206 : decode cX8_byTurns 206 = .ok (.iconst 1, 1) := by decide +kernel
theorem dX8_byTurns_207 : decode cX8_byTurns 207 = .ok (.iadd, 1) := by decide +kernel
theorem dX8_byTurns_208 : decode cX8_byTurns 208 = .ok (.iaload, 1) := by decide +kernel
theorem dX8_byTurns_209 : decode cX8_byTurns 209 = .ok (.goto 12, 3) := by decide +kernel
theorem dX8_byTurns_212 : decode cX8_byTurns 212 = .ok (.aload_n 0, 1) := by decide +kernel
theorem dX8_byTurns_213 : decode cX8_byTurns 213 = .ok (.getfield 38, 3) := by decide +kernel
theorem dX8_byTurns_216 : decode cX8_byTurns 216 = .ok (.iconst 2, 1) := by decide +kernel
theorem dX8_byTurns_217 : decode cX8_byTurns 217 = .ok (.iload 4, 2) := by decide +kernel
theorem dX8_byTurns_219 : decode cX8_byTurns 219 = .ok (.imul, 1) := by decide +kernel
theorem dX8_byTurns_220 : decode cX8_byTurns 220 = .ok (.iaload, 1) := by decide +kernel
theorem dX8_byTurns_221 : decode cX8_byTurns 221 = .ok (.iastore, 1) := by decide +kernel
theorem dX8_byTurns_222 : decode cX8_byTurns 222 = .ok (.iinc 4 1, 3) := by decide +kernel
theorem dX8_byTurns_225 : decode cX8_byTurns 225 = .ok (.goto (-87), 3) := by decide +kernel
theorem dX8_byTurns_228 : decode cX8_byTurns 228 = .ok (.iinc 3 (-1), 3) := by decide +kernel
theorem dX8_byTurns_231 : decode cX8_byTurns 231 = .ok (.goto (-100), 3) := by decide +kernel
theorem dX8_byTurns_234 : decode cX8_byTurns 234 = .ok (.aload_n 0, 1) := by decide +kernel
theorem dX8_byTurns_235 : decode cX8_byTurns 235 = .ok (.getfield 38, 3) := by decide +kernel
theorem dX8_byTurns_238 : decode cX8_byTurns 238 = .ok (.iconst 0, 1) := by decide +kernel
theorem dX8_byTurns_239 : decode cX8_byTurns 239 = .ok (.iaload, 1) := by decide +kernel
theorem dX8_byTurns_240 : decode cX8_byTurns 240 = .ok (.ireturn, 1) := by decide +kernel
theorem dX8_isSo_0 : decode cX8_isSo 0 = .ok (.iconst 1, 1) := by decide +kernel
theorem dX8_isSo_1 : decode cX8_isSo 1 = .ok (.istore 4, 2) := by decide +kernel
theorem dX8_isSo_3 : decode cX8_isSo 3 = .ok (.iconst 0, 1) := by decide +kernel
theorem dX8_isSo_4 : decode cX8_isSo 4 = .ok (.istore 5, 2) := by decide +kernel
theorem dX8_isSo_6 : decode cX8_isSo 6 = .ok (.iload 5, 2) := by decide +kernel
theorem dX8_isSo_8 : decode cX8_isSo 8 = .ok (.iload_n 3, 1) := by decide +kernel
theorem dX8_isSo_9 : decode cX8_isSo 9 = .ok (.if_icmp .ge 51, 3) := by decide +kernel
theorem dX8_isSo_12 : decode cX8_isSo 12 = .ok (.aload_n 0, 1) := by decide +kernel
theorem dX8_isSo_13 : decode cX8_isSo 13 = .ok (.sipush 1053, 3) := by decide +kernel
theorem dX8_isSo_16 : decode cX8_isSo 16 = .ok (.iconst 1, 1) := by decide +kernel
theorem dX8_isSo_17 : decode cX8_isSo 17 = .ok (.invokevirtual 187, 3) := by decide +kernel
theorem dX8_isSo_20 : decode cX8_isSo 20 = .ok (.iload 4, 2) := by decide +kernel
theorem dX8_isSo_22 : decode cX8_isSo 22 = .ok (.ifCond .eq 29, 3) := by decide +kernel
theorem dX8_isSo_25 : decode cX8_isSo 25 = .ok (.aload_n 0, 1) := by decide +kernel
theorem dX8_isSo_26 : decode cX8_isSo 26 = .ok (.getfield 7, 3) := by decide +kernel
theorem dX8_isSo_29 : decode cX8_isSo 29 = .ok (.sipush 1086, 3) := by decide +kernel
theorem dX8_isSo_32 : decode cX8_isSo 32 = .ok (.iload_n 1, 1) := by decide +kernel
theorem dX8_isSo_33 : decode cX8_isSo 33 = .ok (.iadd, 1) := by decide +kernel
theorem dX8_isSo_34 : decode cX8_isSo 34 = .ok (.iaload, 1) := by decide +kernel
theorem dX8_isSo_35 : decode cX8_isSo 35 = .ok (.aload_n 0, 1) := by decide +kernel
theorem dX8_isSo_36 : decode cX8_isSo 36 = .ok (.getfield 23, 3) := by decide +kernel
theorem dX8_isSo_39 : decode cX8_isSo 39 = .ok (.iload_n 2, 1) := by decide +kernel
theorem dX8_isSo_40 : decode cX8_isSo 40 = .ok (.iload 5, 2) := by decide +kernel
theorem dX8_isSo_42 : decode cX8_isSo 42 = .ok (.iadd, 1) := by decide +kernel
theorem dX8_isSo_43 : decode cX8_isSo 43 = .ok (.iaload, 1) := by decide +kernel
theorem dX8_isSo_44 : decode cX8_isSo 44 = .ok (.if_icmp .ne 7, 3) := by decide +kernel
theorem dX8_isSo_47 : decode cX8_isSo 47 = .ok (.iconst 1, 1) := by decide +kernel
theorem dX8_isSo_48 : decode cX8_isSo 48 = .ok (.goto 4, 3) := by decide +kernel
theorem dX8_isSo_51 : decode cX8_isSo 51 = .ok (.iconst 0, 1) := by decide +kernel
theorem dX8_isSo_52 : decode cX8_isSo 52 = .ok (.istore 4, 2) := by decide +kernel
theorem dX8_isSo_54 : decode cX8_isSo 54 = .ok (.iinc 5 1, 3) := by decide +kernel
theorem dX8_isSo_57 : decode cX8_isSo 57 = .ok (.goto (-51), 3) := by decide +kernel
theorem dX8_isSo_60 : decode cX8_isSo 60 = .ok (.iload 4, 2) := by decide +kernel
theorem dX8_isSo_62 : decode cX8_isSo 62 = .ok (.ireturn, 1) := by decide +kernel
theorem dX8_refusal_0 : decode cX8_refusal 0 = .ok (.aload_n 0, 1) := by decide +kernel
theorem dX8_refusal_1 : decode cX8_refusal 1 = .ok (.getfield 20, 3) := by decide +kernel
theorem dX8_refusal_4 : decode cX8_refusal 4 = .ok (.iload_n 1, 1) := by decide +kernel
theorem dX8_refusal_5 : decode cX8_refusal 5 = .ok (.iaload, 1) := by decide +kernel
theorem dX8_refusal_6 : decode cX8_refusal 6 = .ok (.ifCond .ge 11, 3) := by decide +kernel
theorem dX8_refusal_9 : decode cX8_refusal 9 = .ok (.aload_n 0, 1) := by decide +kernel
theorem dX8_refusal_10 : decode cX8_refusal 10 = .ok (.iconst 1, 1) := by decide +kernel
theorem dX8_refusal_11 : decode cX8_refusal 11 = .ok (.invokevirtual 59, 3) := by decide +kernel
theorem dX8_refusal_14 : decode cX8_refusal 14 = .ok (.goto 22, 3) := by decide +kernel
theorem dX8_refusal_17 : decode cX8_refusal 17 = .ok (.aload_n 0, 1) := by decide +kernel
theorem dX8_refusal_18 : decode cX8_refusal 18 = .ok (.iload_n 1, 1) := by decide +kernel
theorem dX8_refusal_19 : decode cX8_refusal 19 = .ok (.iload_n 2, 1) := by decide +kernel
theorem dX8_refusal_20 : decode cX8_refusal 20 = .ok (.iload_n 3, 1) := by decide +kernel
theorem dX8_refusal_21 : decode cX8_refusal 21 = .ok (.invokevirtual 70, 3) := by decide +kernel
theorem dX8_refusal_24 : decode cX8_refusal 24 = .ok (.ifCond .ne 11, 3) := by decide +kernel
theorem dX8_refusal_27 : decode cX8_refusal 27 = .ok (.aload_n 0, 1) := by decide +kernel
theorem dX8_refusal_28 : decode cX8_refusal 28 = .ok (.iconst 2, 1) := by decide +kernel
theorem dX8_refusal_29 : decode cX8_refusal 29 = .ok (.invokevirtual 59, 3) := by decide +kernel
theorem dX8_refusal_32 : decode cX8_refusal 32 = .ok (.goto 4, 3) := by decide +kernel
theorem dX8_refusal_35 : decode cX8_refusal 35 = .ok (.iconst 0, 1) := by decide +kernel
theorem dX8_refusal_36 : decode cX8_refusal 36 = .ok (.ireturn, 1) := by decide +kernel
theorem dX8_who_0 : decode cX8_who 0 = .ok (.aload_n 0, 1) := by decide +kernel
theorem dX8_who_1 : decode cX8_who 1 = .ok (.iload_n 1, 1) := by decide +kernel
theorem dX8_who_2 : decode cX8_who 2 = .ok (.invokevirtual 193, 3) := by decide +kernel
theorem dX8_who_5 : decode cX8_who 5 = .ok (.ifCond .eq 42, 3) := by decide +kernel
theorem dX8_who_8 : decode cX8_who 8 = .ok (.iload_n 2, 1) := by decide +kernel
theorem dX8_who_9 : decode cX8_who 9 = .ok (.i2l, 1) := by decide +kernel
theorem dX8_who_10 : decode cX8_who 10 = .ok (.lconst 0, 1) := by decide +kernel
theorem dX8_who_11 : decode cX8_who 11 = .ok (.lconst 1, 1) := by decide +kernel
theorem dX8_who_12 : decode cX8_who 12 = .ok (.invokestatic 48, 3) := by decide +kernel
theorem dX8_who_15 : decode cX8_who 15 = .ok (.ifCond .eq 32, 3) := by decide +kernel
theorem dX8_who_18 : decode cX8_who 18 = .ok (.aload_n 0, 1) := by decide +kernel
theorem dX8_who_19 : decode cX8_who 19 = .ok (.iload_n 3, 1) := by decide +kernel
theorem dX8_who_20 : decode cX8_who 20 = .ok (.invokevirtual 193, 3) := by decide +kernel
theorem dX8_who_23 : decode cX8_who 23 = .ok (.ifCond .eq 24, 3) := by decide +kernel
theorem dX8_who_26 : decode cX8_who 26 = .ok (.iload 4, 2) := by decide +kernel
theorem dX8_who_28 : decode cX8_who 28 = .ok (.invokestatic 52, 3) := by decide +kernel
theorem dX8_who_31 : decode cX8_who 31 = .ok (.ifCond .eq 16, 3) := by decide +kernel
theorem dX8_who_34 : decode cX8_who 34 = .ok (.iload 6, 2) := by decide +kernel
theorem dX8_who_36 : decode cX8_who 36 = .ok (.i2l, 1) := by decide +kernel
theorem dX8_who_37 : decode cX8_who 37 = .ok (.lconst 1, 1) := by decide +kernel
theorem dX8_who_38 : decode cX8_who 38 = .ok (.ldc2_w 249, 3) := by decide +kernel
theorem dX8_who_41 : decode cX8_who 41 = .ok (.invokestatic 48, 3) := by decide +kernel
theorem dX8_who_44 : decode cX8_who 44 = .ok (.ifCond .ne 6, 3) := by decide +kernel
theorem dX8_who_47 : decode cX8_who 47 = .ok (.ldc 58, 2) := by decide +kernel
theorem dX8_who_49 : decode cX8_who 49 = .ok (.ireturn, 1) := by decide +kernel
theorem dX8_who_50 : decode cX8_who 50 = .ok (.aload_n 0, 1) := by decide +kernel
theorem dX8_who_51 : decode cX8_who 51 = .ok (.iload 4, 2) := by decide +kernel
theorem dX8_who_53 : decode cX8_who 53 = .ok (.iload 5, 2) := by decide +kernel
theorem dX8_who_55 : decode cX8_who 55 = .ok (.iload 6, 2) := by decide +kernel
theorem dX8_who_57 : decode cX8_who 57 = .ok (.invokevirtual 251, 3) := by decide +kernel
theorem dX8_who_60 : decode cX8_who 60 = .ok (.istore 7, 2) := by decide +kernel
theorem dX8_who_62 : decode cX8_who 62 = .ok (.iload 7, 2) := by decide +kernel
theorem dX8_who_64 : decode cX8_who 64 = .ok (.ifCond .eq 6, 3) := by decide +kernel
theorem dX8_who_67 : decode cX8_who 67 = .ok (.iload 7, 2) := by decide +kernel
theorem dX8_who_69 : decode cX8_who 69 = .ok (.ireturn, 1) := by decide +kernel
theorem dX8_who_70 : decode cX8_who 70 = .ok (.iconst 0, 1) := by decide +kernel
theorem dX8_who_71 : decode cX8_who 71 = .ok (.istore 8, 2) := by decide +kernel
theorem dX8_who_73 : decode cX8_who 73 = .ok (.iconst 1, 1) := by decide +kernel
theorem dX8_who_74 : decode cX8_who 74 = .ok (.iload_n 2, 1) := by decide +kernel
theorem dX8_who_75 : decode cX8_who 75 = .ok (.isub, 1) := by decide +kernel
theorem dX8_who_76 : decode cX8_who 76 = .ok (.istore 9, 2) := by decide +kernel
theorem dX8_who_78 : decode cX8_who 78 = .ok (.iload 9, 2) := by decide +kernel
theorem dX8_who_80 : decode cX8_who 80 = .ok (.iload_n 2, 1) := by decide +kernel
theorem dX8_who_81 : decode cX8_who 81 = .ok (.ifCond .ne 8, 3) := by decide +kernel
theorem dX8_who_84 : decode cX8_who 84 = .ok (.bipush 6, 2) := by decide +kernel
theorem dX8_who_86 : decode cX8_who 86 = .ok (.goto 9, 3) := by decide +kernel
theorem dX8_who_89 : decode cX8_who 89 = .ok (.aload_n 0, 1) := by decide +kernel
theorem dX8_who_90 : decode cX8_who 90 = .ok (.getfield 7, 3) := by decide +kernel
theorem dX8_who_93 : decode cX8_who 93 = .ok (.iconst 0, 1) := by decide +kernel
theorem dX8_who_94 : decode cX8_who 94 = .ok (.iaload, 1) := by decide +kernel
theorem dX8_who_95 : decode cX8_who 95 = .ok (.if_icmp .ge 67, 3) := by decide +kernel
theorem dX8_who_98 : decode cX8_who 98 = .ok (.aload_n 0, 1) := by decide +kernel
theorem dX8_who_99 : decode cX8_who 99 = .ok (.invokevirtual 222, 3) := by decide +kernel
theorem dX8_who_102 : decode cX8_who 102 = .ok (.aload_n 0, 1) := by decide +kernel
theorem dX8_who_103 : decode cX8_who 103 = .ok (.getfield 7, 3) := by decide +kernel
theorem dX8_who_106 : decode cX8_who 106 = .ok (.sipush 1053, 3) := by decide +kernel
theorem dX8_who_109 : decode cX8_who 109 = .ok (.iload_n 2, 1) := by decide +kernel
theorem dX8_who_110 : decode cX8_who 110 = .ok (.ifCond .ne 7, 3) := by decide +kernel
theorem dX8_who_113 : decode cX8_who 113 = .ok (.iconst 3, 1) := by decide +kernel
theorem dX8_who_114 : decode cX8_who 114 = .ok (.goto 5, 3) := by decide +kernel
theorem dX8_who_117 : decode cX8_who 117 = .ok (.bipush 9, 2) := by decide +kernel
theorem dX8_who_119 : decode cX8_who 119 = .ok (.iadd, 1) := by decide +kernel
theorem dX8_who_120 : decode cX8_who 120 = .ok (.iload_n 1, 1) := by decide +kernel
theorem dX8_who_121 : decode cX8_who 121 = .ok (.iadd, 1) := by decide +kernel
theorem dX8_who_122 : decode cX8_who 122 = .ok (.iload 9, 2) := by decide +kernel
theorem dX8_who_124 : decode cX8_who 124 = .ok (.iastore, 1) := by decide +kernel
theorem dX8_who_125 : decode cX8_who 125 = .ok (.iload 8, 2) := by decide +kernel
theorem dX8_who_127 : decode cX8_who 127 = .ok (.aload_n 0, 1) := by decide +kernel
theorem dX8_who_128 : decode cX8_who 128 = .ok (.iload_n 3, 1) := by decide +kernel
theorem dX8_who_129 : decode cX8_who 129 = .ok (.bipush 40, 2) := by decide +kernel
theorem dX8_who_131 : decode cX8_who 131 = .ok (.iload 4, 2) := by decide +kernel
theorem dX8_who_133 : decode cX8_who 133 = .ok (.imul, 1) := by decide +kernel
theorem dX8_who_134 : decode cX8_who 134 = .ok (.iload 5, 2) := by decide +kernel
theorem dX8_who_136 : decode cX8_who 136 = .ok (.iadd, 1) := by decide +kernel
theorem dX8_who_137 : decode cX8_who 137 = .ok (.iload 6, 2) := by decide +kernel
theorem dX8_who_139 : decode cX8_who 139 = .ok (.invokevirtual 254, 3) := by decide +kernel
theorem dX8_who_142 : decode cX8_who 142 = .ok (.ifCond .eq 10, 3) := by decide +kernel
theorem dX8_who_145 : decode cX8_who 145 = .ok (.iconst 1, 1) := by decide +kernel
theorem dX8_who_146 : decode cX8_who 146 = .ok (.iload 9, 2) := by decide +kernel
theorem dX8_who_148 : decode cX8_who 148 = .ok (.ishl, 1) := by decide +kernel
theorem dX8_who_149 : decode cX8_who 149 = .ok (.goto 4, 3) := by decide +kernel
theorem dX8_who_152 : decode cX8_who 152 = .ok (.iconst 0, 1) := by decide +kernel
theorem dX8_who_153 : decode cX8_who 153 = .ok (.ior, 1) := by decide +kernel
theorem dX8_who_154 : decode cX8_who 154 = .ok (.istore 8, 2) := by decide +kernel
theorem dX8_who_156 : decode cX8_who 156 = .ok (.iinc 9 1, 3) := by decide +kernel
theorem dX8_who_159 : decode cX8_who 159 = .ok (.goto (-81), 3) := by decide +kernel
theorem dX8_who_162 : decode cX8_who 162 = .ok (.aload_n 0, 1) := by decide +kernel
theorem dX8_who_163 : decode cX8_who 163 = .ok (.iload 8, 2) := by decide +kernel
theorem dX8_who_165 : decode cX8_who 165 = .ok (.invokevirtual 63, 3) := by decide +kernel
theorem dX8_who_168 : decode cX8_who 168 = .ok (.ireturn, 1) := by decide +kernel
theorem dX8_colours_0 : decode cX8_colours 0 = .ok (.aload_n 0, 1) := by decide +kernel
theorem dX8_colours_1 : decode cX8_colours 1 = .ok (.iload_n 1, 1) := by decide +kernel
theorem dX8_colours_2 : decode cX8_colours 2 = .ok (.invokevirtual 193, 3) := by decide +kernel
theorem dX8_colours_5 : decode cX8_colours 5 = .ok (.ifCond .eq 23, 3) := by decide +kernel
theorem dX8_colours_8 : decode cX8_colours 8 = .ok (.iload_n 2, 1) := by decide +kernel
theorem dX8_colours_9 : decode cX8_colours 9 = .ok (.invokestatic 52, 3) := by decide +kernel
theorem dX8_colours_12 : decode cX8_colours 12 = .ok (.ifCond .eq 16, 3) := by decide +kernel
theorem dX8_colours_15 : decode cX8_colours 15 = .ok (.iload 4, 2) := by decide +kernel
theorem dX8_colours_17 : decode cX8_colours 17 = .ok (.i2l, 1) := by decide +kernel
theorem dX8_colours_18 : decode cX8_colours 18 = .ok (.lconst 1, 1) := by decide +kernel
theorem dX8_colours_19 : decode cX8_colours 19 = .ok (.ldc2_w 249, 3) := by decide +kernel
theorem dX8_colours_22 : decode cX8_colours 22 = .ok (.invokestatic 48, 3) := by decide +kernel
theorem dX8_colours_25 : decode cX8_colours 25 = .ok (.ifCond .ne 6, 3) := by decide +kernel
theorem dX8_colours_28 : decode cX8_colours 28 = .ok (.ldc 58, 2) := by decide +kernel
theorem dX8_colours_30 : decode cX8_colours 30 = .ok (.ireturn, 1) := by decide +kernel
theorem dX8_colours_31 : decode cX8_colours 31 = .ok (.aload_n 0, 1) := by decide +kernel
theorem dX8_colours_32 : decode cX8_colours 32 = .ok (.iload_n 2, 1) := by decide +kernel
theorem dX8_colours_33 : decode cX8_colours 33 = .ok (.iload_n 3, 1) := by decide +kernel
theorem dX8_colours_34 : decode cX8_colours 34 = .ok (.iload 4, 2) := by decide +kernel
theorem dX8_colours_36 : decode cX8_colours 36 = .ok (.invokevirtual 251, 3) := by decide +kernel
theorem dX8_colours_39 : decode cX8_colours 39 = .ok (.istore 5, 2) := by decide +kernel
theorem dX8_colours_41 : decode cX8_colours 41 = .ok (.iload 5, 2) := by decide +kernel
theorem dX8_colours_43 : decode cX8_colours 43 = .ok (.ifCond .eq 6, 3) := by decide +kernel
theorem dX8_colours_46 : decode cX8_colours 46 = .ok (.iload 5, 2) := by decide +kernel
theorem dX8_colours_48 : decode cX8_colours 48 = .ok (.ireturn, 1) := by decide +kernel
theorem dX8_colours_49 : decode cX8_colours 49 = .ok (.iconst 0, 1) := by decide +kernel
theorem dX8_colours_50 : decode cX8_colours 50 = .ok (.istore 6, 2) := by decide +kernel
theorem dX8_colours_52 : decode cX8_colours 52 = .ok (.iconst 0, 1) := by decide +kernel
theorem dX8_colours_53 : decode cX8_colours 53 = .ok (.istore 7, 2) := by decide +kernel
theorem dX8_colours_55 : decode cX8_colours 55 = .ok (.iload 7, 2) := by decide +kernel
theorem dX8_colours_57 : decode cX8_colours 57 = .ok (.iconst 4, 1) := by decide +kernel
theorem dX8_colours_58 : decode cX8_colours 58 = .ok (.if_icmp .ge 54, 3) := by decide +kernel
theorem dX8_colours_61 : decode cX8_colours 61 = .ok (.aload_n 0, 1) := by decide +kernel
theorem dX8_colours_62 : decode cX8_colours 62 = .ok (.invokevirtual 222, 3) := by decide +kernel
theorem dX8_colours_65 : decode cX8_colours 65 = .ok (.aload_n 0, 1) := by decide +kernel
theorem dX8_colours_66 : decode cX8_colours 66 = .ok (.getfield 7, 3) := by decide +kernel
theorem dX8_colours_69 : decode cX8_colours 69 = .ok (.sipush 1080, 3) := by decide +kernel
theorem dX8_colours_72 : decode cX8_colours 72 = .ok (.iload_n 1, 1) := by decide +kernel
theorem dX8_colours_73 : decode cX8_colours 73 = .ok (.iadd, 1) := by decide +kernel
theorem dX8_colours_74 : decode cX8_colours 74 = .ok (.iload 7, 2) := by decide +kernel
theorem dX8_colours_76 : decode cX8_colours 76 = .ok (.iastore, 1) := by decide +kernel
theorem dX8_colours_77 : decode cX8_colours 77 = .ok (.iload 6, 2) := by decide +kernel
theorem dX8_colours_79 : decode cX8_colours 79 = .ok (.aload_n 0, 1) := by decide +kernel
theorem dX8_colours_80 : decode cX8_colours 80 = .ok (.iload_n 1, 1) := by decide +kernel
theorem dX8_colours_81 : decode cX8_colours 81 = .ok (.bipush 40, 2) := by decide +kernel
theorem dX8_colours_83 : decode cX8_colours 83 = .ok (.iload_n 2, 1) := by decide +kernel
theorem dX8_colours_84 : decode cX8_colours 84 = .ok (.imul, 1) := by decide +kernel
theorem dX8_colours_85 : decode cX8_colours 85 = .ok (.iload_n 3, 1) := by decide +kernel
theorem dX8_colours_86 : decode cX8_colours 86 = .ok (.iadd, 1) := by decide +kernel
theorem dX8_colours_87 : decode cX8_colours 87 = .ok (.iload 4, 2) := by decide +kernel
theorem dX8_colours_89 : decode cX8_colours 89 = .ok (.invokevirtual 254, 3) := by decide +kernel
theorem dX8_colours_92 : decode cX8_colours 92 = .ok (.ifCond .eq 10, 3) := by decide +kernel
theorem dX8_colours_95 : decode cX8_colours 95 = .ok (.iconst 1, 1) := by decide +kernel
theorem dX8_colours_96 : decode cX8_colours 96 = .ok (.iload 7, 2) := by decide +kernel
theorem dX8_colours_98 : decode cX8_colours 98 = .ok (.ishl, 1) := by decide +kernel
theorem dX8_colours_99 : decode cX8_colours 99 = .ok (.goto 4, 3) := by decide +kernel
theorem dX8_colours_102 : decode cX8_colours 102 = .ok (.iconst 0, 1) := by decide +kernel
theorem dX8_colours_103 : decode cX8_colours 103 = .ok (.ior, 1) := by decide +kernel
theorem dX8_colours_104 : decode cX8_colours 104 = .ok (.istore 6, 2) := by decide +kernel
theorem dX8_colours_106 : decode cX8_colours 106 = .ok (.iinc 7 1, 3) := by decide +kernel
theorem dX8_colours_109 : decode cX8_colours 109 = .ok (.goto (-54), 3) := by decide +kernel
theorem dX8_colours_112 : decode cX8_colours 112 = .ok (.aload_n 0, 1) := by decide +kernel
theorem dX8_colours_113 : decode cX8_colours 113 = .ok (.iload 6, 2) := by decide +kernel
theorem dX8_colours_115 : decode cX8_colours 115 = .ok (.invokevirtual 63, 3) := by decide +kernel
theorem dX8_colours_118 : decode cX8_colours 118 = .ok (.ireturn, 1) := by decide +kernel
theorem dX8_sleep_0 : decode cX8_sleep 0 = .ok (.aload_n 0, 1) := by decide +kernel
theorem dX8_sleep_1 : decode cX8_sleep 1 = .ok (.iload_n 1, 1) := by decide +kernel
theorem dX8_sleep_2 : decode cX8_sleep 2 = .ok (.invokevirtual 193, 3) := by decide +kernel
theorem dX8_sleep_5 : decode cX8_sleep 5 = .ok (.ifCond .eq 38, 3) := by decide +kernel
theorem dX8_sleep_8 : decode cX8_sleep 8 = .ok (.iload_n 2, 1) := by decide +kernel
theorem dX8_sleep_9 : decode cX8_sleep 9 = .ok (.i2l, 1) := by decide +kernel
theorem dX8_sleep_10 : decode cX8_sleep 10 = .ok (.lconst 0, 1) := by decide +kernel
theorem dX8_sleep_11 : decode cX8_sleep 11 = .ok (.ldc2_w 220, 3) := by decide +kernel
theorem dX8_sleep_14 : decode cX8_sleep 14 = .ok (.invokestatic 48, 3) := by decide +kernel
theorem dX8_sleep_17 : decode cX8_sleep 17 = .ok (.ifCond .eq 26, 3) := by decide +kernel
theorem dX8_sleep_20 : decode cX8_sleep 20 = .ok (.iload_n 3, 1) := by decide +kernel
theorem dX8_sleep_21 : decode cX8_sleep 21 = .ok (.i2l, 1) := by decide +kernel
theorem dX8_sleep_22 : decode cX8_sleep 22 = .ok (.lconst 0, 1) := by decide +kernel
theorem dX8_sleep_23 : decode cX8_sleep 23 = .ok (.ldc2_w 257, 3) := by decide +kernel
theorem dX8_sleep_26 : decode cX8_sleep 26 = .ok (.invokestatic 48, 3) := by decide +kernel
theorem dX8_sleep_29 : decode cX8_sleep 29 = .ok (.ifCond .eq 14, 3) := by decide +kernel
theorem dX8_sleep_32 : decode cX8_sleep 32 = .ok (.iload 4, 2) := by decide +kernel
theorem dX8_sleep_34 : decode cX8_sleep 34 = .ok (.i2l, 1) := by decide +kernel
theorem dX8_sleep_35 : decode cX8_sleep 35 = .ok (.lconst 0, 1) := by decide +kernel
theorem dX8_sleep_36 : decode cX8_sleep 36 = .ok (.lconst 1, 1) := by decide +kernel
theorem dX8_sleep_37 : decode cX8_sleep 37 = .ok (.invokestatic 48, 3) := by decide +kernel
theorem dX8_sleep_40 : decode cX8_sleep 40 = .ok (.ifCond .ne 7, 3) := by decide +kernel
theorem dX8_sleep_43 : decode cX8_sleep 43 = .ok (.ldc2_w 259, 3) := by decide +kernel
theorem dX8_sleep_46 : decode cX8_sleep 46 = .ok (.lreturn, 1) := by decide +kernel
theorem dX8_sleep_47 : decode cX8_sleep 47 = .ok (.iconst 1, 1) := by decide +kernel
theorem dX8_sleep_48 : decode cX8_sleep 48 = .ok (.aload_n 0, 1) := by decide +kernel
theorem dX8_sleep_49 : decode cX8_sleep 49 = .ok (.getfield 7, 3) := by decide +kernel
theorem dX8_sleep_52 : decode cX8_sleep 52 = .ok (.iconst 1, 1) := by decide +kernel
theorem dX8_sleep_53 : decode cX8_sleep 53 = .ok (.iaload, 1) := by decide +kernel
theorem dX8_sleep_54 : decode cX8_sleep 54 = .ok (.ishl, 1) := by decide +kernel
theorem dX8_sleep_55 : decode cX8_sleep 55 = .ok (.iconst 1, 1) := by decide +kernel
theorem dX8_sleep_56 : decode cX8_sleep 56 = .ok (.isub, 1) := by decide +kernel
theorem dX8_sleep_57 : decode cX8_sleep 57 = .ok (.aload_n 0, 1) := by decide +kernel
theorem dX8_sleep_58 : decode cX8_sleep 58 = .ok (.iconst 0, 1) := by decide +kernel
theorem dX8_sleep_59 : decode cX8_sleep 59 = .ok (.invokevirtual 190, 3) := by decide +kernel
theorem dX8_sleep_62 : decode cX8_sleep 62 = .ok (.iconst (-1), 1) := by decide +kernel
theorem dX8_sleep_63 : decode cX8_sleep 63 = .ok (.ixor, 1) := by decide +kernel
theorem dX8_sleep_64 : decode cX8_sleep 64 = .ok (.iand, 1) := by decide +kernel
theorem dX8_sleep_65 : decode cX8_sleep 65 = .ok (.istore 5, 2) := by decide +kernel
theorem dX8_sleep_67 : decode cX8_sleep 67 = .ok (.lconst 0, 1) := by decide +kernel
theorem dX8_sleep_68 : decode cX8_sleep 68 = .ok (.lstore 6, 2) := by decide +kernel
theorem dX8_sleep_70 : decode cX8_sleep 70 = .ok (.lconst 0, 1) := by decide +kernel
theorem dX8_sleep_71 : decode cX8_sleep 71 = .ok (.lstore 8, 2) := by decide +kernel
theorem dX8_sleep_73 : decode cX8_sleep 73 = .ok (.iconst 0, 1) := by decide +kernel
theorem dX8_sleep_74 : decode cX8_sleep 74 = .ok (.istore 10, 2) := by decide +kernel
theorem dX8_sleep_76 : decode cX8_sleep 76 = .ok (.iload 10, 2) := by decide +kernel
theorem dX8_sleep_78 : decode cX8_sleep 78 = .ok (.iload 5, 2) := by decide +kernel
theorem dX8_sleep_80 : decode cX8_sleep 80 = .ok (.if_icmp .gt 137, 3) := by decide +kernel
theorem dX8_sleep_83 : decode cX8_sleep 83 = .ok (.iload 10, 2) := by decide +kernel
theorem dX8_sleep_85 : decode cX8_sleep 85 = .ok (.iload 5, 2) := by decide +kernel
theorem dX8_sleep_87 : decode cX8_sleep 87 = .ok (.iconst (-1), 1) := by decide +kernel
theorem dX8_sleep_88 : decode cX8_sleep 88 = .ok (.ixor, 1) := by decide +kernel
theorem dX8_sleep_89 : decode cX8_sleep 89 = .ok (.iand, 1) := by decide +kernel
theorem dX8_sleep_90 : decode cX8_sleep 90 = .ok (.ifCond .ne 121, 3) := by decide +kernel
theorem dX8_sleep_93 : decode cX8_sleep 93 = .ok (.lconst 1, 1) := by decide +kernel
theorem dX8_sleep_94 : decode cX8_sleep 94 = .ok (.lstore 11, 2) := by decide +kernel
theorem dX8_sleep_96 : decode cX8_sleep 96 = .ok (.iconst 0, 1) := by decide +kernel
theorem dX8_sleep_97 : decode cX8_sleep 97 = .ok (.istore 13, 2) := by decide +kernel
theorem dX8_sleep_99 : decode cX8_sleep 99 = .ok (.iload 13, 2) := by decide +kernel
theorem dX8_sleep_101 : decode cX8_sleep 101 = .ok (.aload_n 0, 1) := by decide +kernel
theorem dX8_sleep_102 : decode cX8_sleep 102 = .ok (.getfield 7, 3) := by decide +kernel
theorem dX8_sleep_105 : decode cX8_sleep 105 = .ok (.iconst 1, 1) := by decide +kernel
theorem dX8_sleep_106 : decode cX8_sleep 106 = .ok (.iaload, 1) := by decide +kernel
theorem dX8_sleep_107 : decode cX8_sleep 107 = .ok (.if_icmp .ge 48, 3) := by decide +kernel
theorem dX8_sleep_110 : decode cX8_sleep 110 = .ok (.lload 11, 2) := by decide +kernel
theorem dX8_sleep_112 : decode cX8_sleep 112 = .ok (.iload 5, 2) := by decide +kernel
theorem dX8_sleep_114 : decode cX8_sleep 114 = .ok (.iload 13, 2) := by decide +kernel
theorem dX8_sleep_116 : decode cX8_sleep 116 = .ok (.invokestatic 150, 3) := by decide +kernel
theorem dX8_sleep_119 : decode cX8_sleep 119 = .ok (.ifCond .ne 7, 3) := by decide +kernel
theorem dX8_sleep_122 : decode cX8_sleep 122 = .ok (.lconst 1, 1) := by decide +kernel
theorem dX8_sleep_123 : decode cX8_sleep 123 = .ok (.goto 23, 3) := by decide +kernel
theorem dX8_sleep_126 : decode cX8_sleep 126 = .ok (.iload 10, 2) := by decide +kernel
theorem dX8_sleep_128 : decode cX8_sleep 128 = .ok (.iload 13, 2) := by decide +kernel
theorem dX8_sleep_130 : decode cX8_sleep 130 = .ok (.invokestatic 150, 3) := by decide +kernel
theorem dX8_sleep_133 : decode cX8_sleep 133 = .ok (.ifCond .eq 8, 3) := by decide +kernel
theorem dX8_sleep_136 : decode cX8_sleep 136 = .ok (.iload_n 3, 1) := by decide +kernel
theorem dX8_sleep_137 : decode cX8_sleep 137 = .ok (.i2l, 1) := by decide +kernel
theorem dX8_sleep_138 : decode cX8_sleep 138 = .ok (.goto 8, 3) := by decide +kernel
theorem dX8_sleep_141 : decode cX8_sleep 141 = .ok (.bipush 10, 2) := by decide +kernel
theorem dX8_sleep_143 : decode cX8_sleep 143 = .ok (.iload_n 3, 1) := by decide +kernel
theorem dX8_sleep_144 : decode cX8_sleep 144 = .ok (.isub, 1) := by decide +kernel
theorem dX8_sleep_145 : decode cX8_sleep 145 = .ok (.i2l, 1) := by decide +kernel
theorem dX8_sleep_146 : decode cX8_sleep 146 = .ok (.lmul, 1) := by decide +kernel
theorem dX8_sleep_147 : decode cX8_sleep 147 = .ok (.lstore 11, 2) := by decide +kernel
theorem dX8_sleep_149 : decode cX8_sleep 149 = .ok (.iinc 13 1, 3) := by decide +kernel
theorem dX8_sleep_152 : decode cX8_sleep 152 = .ok (.goto (-53), 3) := by decide +kernel
theorem dX8_sleep_155 : decode cX8_sleep 155 = .ok (.aload_n 0, 1) := by decide +kernel
theorem dX8_sleep_156 : decode cX8_sleep 156 = .ok (.invokevirtual 222, 3) := by decide +kernel
theorem dX8_sleep_159 : decode cX8_sleep 159 = .ok (.aload_n 0, 1) := by decide +kernel
theorem dX8_sleep_160 : decode cX8_sleep 160 = .ok (.iload 10, 2) := by decide +kernel
theorem dX8_sleep_162 : decode cX8_sleep 162 = .ok (.putfield 147, 3) := by decide +kernel
theorem dX8_sleep_165 : decode cX8_sleep 165 = .ok (.aload_n 0, 1) := by decide +kernel
theorem dX8_sleep_166 : decode cX8_sleep 166 = .ok (.sipush 1053, 3) := by decide +kernel
theorem dX8_sleep_169 : decode cX8_sleep 169 = .ok (.iload_n 2, 1) := by decide +kernel
theorem dX8_sleep_170 : decode cX8_sleep 170 = .ok (.invokevirtual 187, 3) := by decide +kernel
theorem dX8_sleep_173 : decode cX8_sleep 173 = .ok (.aload_n 0, 1) := by decide +kernel
theorem dX8_sleep_174 : decode cX8_sleep 174 = .ok (.iconst 0, 1) := by decide +kernel
theorem dX8_sleep_175 : decode cX8_sleep 175 = .ok (.putfield 147, 3) := by decide +kernel
theorem dX8_sleep_178 : decode cX8_sleep 178 = .ok (.lload 6, 2) := by decide +kernel
theorem dX8_sleep_180 : decode cX8_sleep 180 = .ok (.aload_n 0, 1) := by decide +kernel
theorem dX8_sleep_181 : decode cX8_sleep 181 = .ok (.getfield 7, 3) := by decide +kernel
theorem dX8_sleep_184 : decode cX8_sleep 184 = .ok (.sipush 1086, 3) := by decide +kernel
theorem dX8_sleep_187 : decode cX8_sleep 187 = .ok (.iload_n 1, 1) := by decide +kernel
theorem dX8_sleep_188 : decode cX8_sleep 188 = .ok (.iadd, 1) := by decide +kernel
theorem dX8_sleep_189 : decode cX8_sleep 189 = .ok (.iaload, 1) := by decide +kernel
theorem dX8_sleep_190 : decode cX8_sleep 190 = .ok (.bipush 20, 2) := by decide +kernel
theorem dX8_sleep_192 : decode cX8_sleep 192 = .ok (.if_icmp .ge 8, 3) := by decide +kernel
theorem dX8_sleep_195 : decode cX8_sleep 195 = .ok (.lload 11, 2) := by decide +kernel
theorem dX8_sleep_197 : decode cX8_sleep 197 = .ok (.goto 4, 3) := by decide +kernel
theorem dX8_sleep_200 : decode cX8_sleep 200 = .ok (.lconst 0, 1) := by decide +kernel
theorem dX8_sleep_201 : decode cX8_sleep 201 = .ok (.ladd, 1) := by decide +kernel
theorem dX8_sleep_202 : decode cX8_sleep 202 = .ok (.lstore 6, 2) := by decide +kernel
theorem dX8_sleep_204 : decode cX8_sleep 204 = .ok (.lload 8, 2) := by decide +kernel
theorem dX8_sleep_206 : decode cX8_sleep 206 = .ok (.lload 11, 2) := by decide +kernel
theorem dX8_sleep_208 : decode cX8_sleep 208 = .ok (.ladd, 1) := by decide +kernel
theorem dX8_sleep_209 : decode cX8_sleep 209 = .ok (.lstore 8, 2) := by decide +kernel
theorem dX8_sleep_211 : decode cX8_sleep 211 = .ok (.iinc 10 1, 3) := by decide +kernel
theorem dX8_sleep_214 : decode cX8_sleep 214 = .ok (.goto (-138), 3) := by decide +kernel
theorem dX8_sleep_217 : decode cX8_sleep 217 = .ok (.lload 6, 2) := by decide +kernel
theorem dX8_sleep_219 : decode cX8_sleep 219 = .ok (.lstore 10, 2) := by decide +kernel
theorem dX8_sleep_221 : decode cX8_sleep 221 = .ok (.lload 8, 2) := by decide +kernel
theorem dX8_sleep_223 : decode cX8_sleep 223 = .ok (.lstore 12, 2) := by decide +kernel
theorem dX8_sleep_225 : decode cX8_sleep 225 = .ok (.lload 12, 2) := by decide +kernel
theorem dX8_sleep_227 : decode cX8_sleep 227 = .ok (.lconst 0, 1) := by decide +kernel
theorem dX8_sleep_228 : decode cX8_sleep 228 = .ok (.lcmp, 1) := by decide +kernel
theorem dX8_sleep_229 : decode cX8_sleep 229 = .ok (.ifCond .eq 21, 3) := by decide +kernel
theorem dX8_sleep_232 : decode cX8_sleep 232 = .ok (.lload 10, 2) := by decide +kernel
theorem dX8_sleep_234 : decode cX8_sleep 234 = .ok (.lload 12, 2) := by decide +kernel
theorem dX8_sleep_236 : decode cX8_sleep 236 = .ok (.lrem, 1) := by decide +kernel
theorem dX8_sleep_237 : decode cX8_sleep 237 = .ok (.lstore 14, 2) := by decide +kernel
theorem dX8_sleep_239 : decode cX8_sleep 239 = .ok (.lload 12, 2) := by decide +kernel
theorem dX8_sleep_241 : decode cX8_sleep 241 = .ok (.lstore 10, 2) := by decide +kernel
theorem dX8_sleep_243 : decode cX8_sleep 243 = .ok (.lload 14, 2) := by decide +kernel
theorem dX8_sleep_245 : decode cX8_sleep 245 = .ok (.lstore 12, 2) := by decide +kernel
theorem dX8_sleep_247 : decode cX8_sleep 247 = .ok (.goto (-22), 3) := by decide +kernel
theorem dX8_sleep_250 : decode cX8_sleep 250 = .ok (.iload 4, 2) := by decide +kernel
theorem dX8_sleep_252 : decode cX8_sleep 252 = .ok (.ifCond .ne 11, 3) := by decide +kernel
theorem dX8_sleep_255 : decode cX8_sleep 255 = .ok (.lload 6, 2) := by decide +kernel
theorem dX8_sleep_257 : decode cX8_sleep 257 = .ok (.lload 10, 2) := by decide +kernel
theorem dX8_sleep_259 : decode cX8_sleep 259 = .ok (.ldiv, 1) := by decide +kernel
theorem dX8_sleep_260 : decode cX8_sleep 260 = .ok (.goto 8, 3) := by decide +kernel
theorem dX8_sleep_263 : decode cX8_sleep 263 = .ok (.lload 8, 2) := by decide +kernel
theorem dX8_sleep_265 : decode cX8_sleep 265 = .ok (.lload 10, 2) := by decide +kernel
theorem dX8_sleep_267 : decode cX8_sleep 267 = .ok (.ldiv, 1) := by decide +kernel
theorem dX8_sleep_268 : decode cX8_sleep 268 = .ok (.lreturn, 1) := by decide +kernel
theorem dX8_drawn_0 : decode cX8_drawn 0 = .ok (.aload_n 0, 1) := by decide +kernel
theorem dX8_drawn_1 : decode cX8_drawn 1 = .ok (.invokevirtual 179, 3) := by decide +kernel
theorem dX8_drawn_4 : decode cX8_drawn 4 = .ok (.ifCond .ne 6, 3) := by decide +kernel
theorem dX8_drawn_7 : decode cX8_drawn 7 = .ok (.ldc 178, 2) := by decide +kernel
theorem dX8_drawn_9 : decode cX8_drawn 9 = .ok (.ireturn, 1) := by decide +kernel
theorem dX8_drawn_10 : decode cX8_drawn 10 = .ok (.iload_n 1, 1) := by decide +kernel
theorem dX8_drawn_11 : decode cX8_drawn 11 = .ok (.i2l, 1) := by decide +kernel
theorem dX8_drawn_12 : decode cX8_drawn 12 = .ok (.lconst 0, 1) := by decide +kernel
theorem dX8_drawn_13 : decode cX8_drawn 13 = .ok (.ldc2_w 220, 3) := by decide +kernel
theorem dX8_drawn_16 : decode cX8_drawn 16 = .ok (.invokestatic 48, 3) := by decide +kernel
theorem dX8_drawn_19 : decode cX8_drawn 19 = .ok (.ifCond .eq 25, 3) := by decide +kernel
theorem dX8_drawn_22 : decode cX8_drawn 22 = .ok (.iload_n 2, 1) := by decide +kernel
theorem dX8_drawn_23 : decode cX8_drawn 23 = .ok (.i2l, 1) := by decide +kernel
theorem dX8_drawn_24 : decode cX8_drawn 24 = .ok (.lconst 1, 1) := by decide +kernel
theorem dX8_drawn_25 : decode cX8_drawn 25 = .ok (.ldc2_w 261, 3) := by decide +kernel
theorem dX8_drawn_28 : decode cX8_drawn 28 = .ok (.invokestatic 48, 3) := by decide +kernel
theorem dX8_drawn_31 : decode cX8_drawn 31 = .ok (.ifCond .eq 13, 3) := by decide +kernel
theorem dX8_drawn_34 : decode cX8_drawn 34 = .ok (.iload_n 3, 1) := by decide +kernel
theorem dX8_drawn_35 : decode cX8_drawn 35 = .ok (.i2l, 1) := by decide +kernel
theorem dX8_drawn_36 : decode cX8_drawn 36 = .ok (.lconst 0, 1) := by decide +kernel
theorem dX8_drawn_37 : decode cX8_drawn 37 = .ok (.lconst 1, 1) := by decide +kernel
theorem dX8_drawn_38 : decode cX8_drawn 38 = .ok (.invokestatic 48, 3) := by decide +kernel
theorem dX8_drawn_41 : decode cX8_drawn 41 = .ok (.ifCond .ne 6, 3) := by decide +kernel
theorem dX8_drawn_44 : decode cX8_drawn 44 = .ok (.ldc 58, 2) := by decide +kernel
theorem dX8_drawn_46 : decode cX8_drawn 46 = .ok (.ireturn, 1) := by decide +kernel
theorem dX8_drawn_47 : decode cX8_drawn 47 = .ok (.aload_n 0, 1) := by decide +kernel
theorem dX8_drawn_48 : decode cX8_drawn 48 = .ok (.invokevirtual 222, 3) := by decide +kernel
theorem dX8_drawn_51 : decode cX8_drawn 51 = .ok (.aload_n 0, 1) := by decide +kernel
theorem dX8_drawn_52 : decode cX8_drawn 52 = .ok (.iconst 0, 1) := by decide +kernel
theorem dX8_drawn_53 : decode cX8_drawn 53 = .ok (.putfield 156, 3) := by decide +kernel
theorem dX8_drawn_56 : decode cX8_drawn 56 = .ok (.aload_n 0, 1) := by decide +kernel
theorem dX8_drawn_57 : decode cX8_drawn 57 = .ok (.iconst 0, 1) := by decide +kernel
theorem dX8_drawn_58 : decode cX8_drawn 58 = .ok (.putfield 159, 3) := by decide +kernel
theorem dX8_drawn_61 : decode cX8_drawn 61 = .ok (.iload_n 2, 1) := by decide +kernel
theorem dX8_drawn_62 : decode cX8_drawn 62 = .ok (.i2l, 1) := by decide +kernel
theorem dX8_drawn_63 : decode cX8_drawn 63 = .ok (.lstore 4, 2) := by decide +kernel
theorem dX8_drawn_65 : decode cX8_drawn 65 = .ok (.iconst 0, 1) := by decide +kernel
theorem dX8_drawn_66 : decode cX8_drawn 66 = .ok (.istore 6, 2) := by decide +kernel
theorem dX8_drawn_68 : decode cX8_drawn 68 = .ok (.iload 6, 2) := by decide +kernel
theorem dX8_drawn_70 : decode cX8_drawn 70 = .ok (.iload_n 1, 1) := by decide +kernel
theorem dX8_drawn_71 : decode cX8_drawn 71 = .ok (.if_icmp .ge 99, 3) := by decide +kernel
theorem dX8_drawn_74 : decode cX8_drawn 74 = .ok (.lload 4, 2) := by decide +kernel
theorem dX8_drawn_76 : decode cX8_drawn 76 = .ok (.ldc2_w 263, 3) := by decide +kernel
theorem dX8_drawn_79 : decode cX8_drawn 79 = .ok (.lmul, 1) := by decide +kernel
theorem dX8_drawn_80 : decode cX8_drawn 80 = .ok (.ldc2_w 265, 3) := by decide +kernel
theorem dX8_drawn_83 : decode cX8_drawn 83 = .ok (.lrem, 1) := by decide +kernel
theorem dX8_drawn_84 : decode cX8_drawn 84 = .ok (.lstore 4, 2) := by decide +kernel
theorem dX8_drawn_86 : decode cX8_drawn 86 = .ok (.lload 4, 2) := by decide +kernel
theorem dX8_drawn_88 : decode cX8_drawn 88 = .ok (.aload_n 0, 1) := by decide +kernel
theorem dX8_drawn_89 : decode cX8_drawn 89 = .ok (.getfield 7, 3) := by decide +kernel
theorem dX8_drawn_92 : decode cX8_drawn 92 = .ok (.iconst 1, 1) := by decide +kernel
theorem dX8_drawn_93 : decode cX8_drawn 93 = .ok (.iaload, 1) := by decide +kernel
theorem dX8_drawn_94 : decode cX8_drawn 94 = .ok (.i2l, 1) := by decide +kernel
theorem dX8_drawn_95 : decode cX8_drawn 95 = .ok (.lrem, 1) := by decide +kernel
theorem dX8_drawn_96 : decode cX8_drawn 96 = .ok (.l2i, 1) := by decide +kernel
theorem dX8_drawn_97 : decode cX8_drawn 97 = .ok (.istore 7, 2) := by decide +kernel
theorem dX8_drawn_99 : decode cX8_drawn 99 = .ok (.aload_n 0, 1) := by decide +kernel
theorem dX8_drawn_100 : decode cX8_drawn 100 = .ok (.sipush 1053, 3) := by decide +kernel
theorem dX8_drawn_103 : decode cX8_drawn 103 = .ok (.iload 7, 2) := by decide +kernel
theorem dX8_drawn_105 : decode cX8_drawn 105 = .ok (.invokevirtual 141, 3) := by decide +kernel
theorem dX8_drawn_108 : decode cX8_drawn 108 = .ok (.ifCond .ne 15, 3) := by decide +kernel
theorem dX8_drawn_111 : decode cX8_drawn 111 = .ok (.aload_n 0, 1) := by decide +kernel
theorem dX8_drawn_112 : decode cX8_drawn 112 = .ok (.sipush 1053, 3) := by decide +kernel
theorem dX8_drawn_115 : decode cX8_drawn 115 = .ok (.iload 7, 2) := by decide +kernel
theorem dX8_drawn_117 : decode cX8_drawn 117 = .ok (.invokevirtual 201, 3) := by decide +kernel
theorem dX8_drawn_120 : decode cX8_drawn 120 = .ok (.goto 36, 3) := by decide +kernel
theorem dX8_drawn_123 : decode cX8_drawn 123 = .ok (.lload 4, 2) := by decide +kernel
theorem dX8_drawn_125 : decode cX8_drawn 125 = .ok (.ldc2_w 199, 3) := by decide +kernel
theorem dX8_drawn_128 : decode cX8_drawn 128 = .ok (.lrem, 1) := by decide +kernel
theorem dX8_drawn_129 : decode cX8_drawn 129 = .ok (.lconst 0, 1) := by decide +kernel
theorem dX8_drawn_130 : decode cX8_drawn 130 = .ok (.lcmp, 1) := by decide +kernel
theorem dX8_drawn_131 : decode cX8_drawn 131 = .ok (.ifCond .ne 25, 3) := by decide +kernel
theorem dX8_drawn_134 : decode cX8_drawn 134 = .ok (.aload_n 0, 1) := by decide +kernel
theorem dX8_drawn_135 : decode cX8_drawn 135 = .ok (.getfield 7, 3) := by decide +kernel
theorem dX8_drawn_138 : decode cX8_drawn 138 = .ok (.sipush 1062, 3) := by decide +kernel
theorem dX8_drawn_141 : decode cX8_drawn 141 = .ok (.iload 7, 2) := by decide +kernel
theorem dX8_drawn_143 : decode cX8_drawn 143 = .ok (.iadd, 1) := by decide +kernel
theorem dX8_drawn_144 : decode cX8_drawn 144 = .ok (.lload 4, 2) := by decide +kernel
theorem dX8_drawn_146 : decode cX8_drawn 146 = .ok (.aload_n 0, 1) := by decide +kernel
theorem dX8_drawn_147 : decode cX8_drawn 147 = .ok (.getfield 7, 3) := by decide +kernel
theorem dX8_drawn_150 : decode cX8_drawn 150 = .ok (.iconst 0, 1) := by decide +kernel
theorem dX8_drawn_151 : decode cX8_drawn 151 = .ok (.iaload, 1) := by decide +kernel
theorem dX8_drawn_152 : decode cX8_drawn 152 = .ok (.i2l, 1) := by decide +kernel
theorem dX8_drawn_153 : decode cX8_drawn 153 = .ok (.lrem, 1) := by decide +kernel
theorem dX8_drawn_154 : decode cX8_drawn 154 = .ok (.l2i, 1) := by decide +kernel
theorem dX8_drawn_155 : decode cX8_drawn 155 = .ok (.iastore, 1) := by decide +kernel
theorem dX8_drawn_156 : decode cX8_drawn 156 = .ok (.aload_n 0, 1) := by decide +kernel
theorem dX8_drawn_157 : decode cX8_drawn 157 = .ok (.sipush 1053, 3) := by decide +kernel
theorem dX8_drawn_160 : decode cX8_drawn 160 = .ok (.iconst 1, 1) := by decide +kernel
theorem dX8_drawn_161 : decode cX8_drawn 161 = .ok (.invokevirtual 187, 3) := by decide +kernel
theorem dX8_drawn_164 : decode cX8_drawn 164 = .ok (.iinc 6 1, 3) := by decide +kernel
theorem dX8_drawn_167 : decode cX8_drawn 167 = .ok (.goto (-99), 3) := by decide +kernel
theorem dX8_drawn_170 : decode cX8_drawn 170 = .ok (.iload_n 3, 1) := by decide +kernel
theorem dX8_drawn_171 : decode cX8_drawn 171 = .ok (.ifCond .ne 10, 3) := by decide +kernel
theorem dX8_drawn_174 : decode cX8_drawn 174 = .ok (.aload_n 0, 1) := by decide +kernel
theorem dX8_drawn_175 : decode cX8_drawn 175 = .ok (.getfield 156, 3) := by decide +kernel
theorem dX8_drawn_178 : decode cX8_drawn 178 = .ok (.goto 7, 3) := by decide +kernel
theorem dX8_drawn_181 : decode cX8_drawn 181 = .ok (.aload_n 0, 1) := by decide +kernel
theorem dX8_drawn_182 : decode cX8_drawn 182 = .ok (.getfield 159, 3) := by decide +kernel
theorem dX8_drawn_185 : decode cX8_drawn 185 = .ok (.ireturn, 1) := by decide +kernel
theorem dX8_image_0 : decode cX8_image 0 = .ok (.iload_n 1, 1) := by decide +kernel
theorem dX8_image_1 : decode cX8_image 1 = .ok (.i2l, 1) := by decide +kernel
theorem dX8_image_2 : decode cX8_image 2 = .ok (.lconst 0, 1) := by decide +kernel
theorem dX8_image_3 : decode cX8_image 3 = .ok (.lconst 1, 1) := by decide +kernel
theorem dX8_image_4 : decode cX8_image 4 = .ok (.invokestatic 48, 3) := by decide +kernel
theorem dX8_image_7 : decode cX8_image 7 = .ok (.ifCond .ne 6, 3) := by decide +kernel
theorem dX8_image_10 : decode cX8_image 10 = .ok (.ldc 58, 2) := by decide +kernel
theorem dX8_image_12 : decode cX8_image 12 = .ok (.ireturn, 1) := by decide +kernel
theorem dX8_image_13 : decode cX8_image 13 = .ok (.aload_n 0, 1) := by decide +kernel
theorem dX8_image_14 : decode cX8_image 14 = .ok (.invokevirtual 179, 3) := by decide +kernel
theorem dX8_image_17 : decode cX8_image 17 = .ok (.ifCond .ne 6, 3) := by decide +kernel
theorem dX8_image_20 : decode cX8_image 20 = .ok (.ldc 178, 2) := by decide +kernel
theorem dX8_image_22 : decode cX8_image 22 = .ok (.ireturn, 1) := by decide +kernel
theorem dX8_image_23 : decode cX8_image 23 = .ok (.aload_n 0, 1) := by decide +kernel
theorem dX8_image_24 : decode cX8_image 24 = .ok (.iconst 0, 1) := by decide +kernel
theorem dX8_image_25 : decode cX8_image 25 = .ok (.sipush 975, 3) := by decide +kernel
theorem dX8_image_28 : decode cX8_image 28 = .ok (.bipush 39, 2) := by decide +kernel
theorem dX8_image_30 : decode cX8_image 30 = .ok (.iload_n 1, 1) := by decide +kernel
theorem dX8_image_31 : decode cX8_image 31 = .ok (.imul, 1) := by decide +kernel
theorem dX8_image_32 : decode cX8_image 32 = .ok (.iadd, 1) := by decide +kernel
theorem dX8_image_33 : decode cX8_image 33 = .ok (.invokevirtual 131, 3) := by decide +kernel
theorem dX8_image_36 : decode cX8_image 36 = .ok (.aload_n 0, 1) := by decide +kernel
theorem dX8_image_37 : decode cX8_image 37 = .ok (.getfield 13, 3) := by decide +kernel
theorem dX8_image_40 : decode cX8_image 40 = .ok (.iload_n 1, 1) := by decide +kernel
theorem dX8_image_41 : decode cX8_image 41 = .ok (.iconst 1, 1) := by decide +kernel
theorem dX8_image_42 : decode cX8_image 42 = .ok (.bastore, 1) := by decide +kernel
theorem dX8_image_43 : decode cX8_image 43 = .ok (.iconst 1, 1) := by decide +kernel
theorem dX8_image_44 : decode cX8_image 44 = .ok (.ireturn, 1) := by decide +kernel
theorem dX8_restore_0 : decode cX8_restore 0 = .ok (.iload_n 1, 1) := by decide +kernel
theorem dX8_restore_1 : decode cX8_restore 1 = .ok (.i2l, 1) := by decide +kernel
theorem dX8_restore_2 : decode cX8_restore 2 = .ok (.lconst 0, 1) := by decide +kernel
theorem dX8_restore_3 : decode cX8_restore 3 = .ok (.lconst 1, 1) := by decide +kernel
theorem dX8_restore_4 : decode cX8_restore 4 = .ok (.invokestatic 48, 3) := by decide +kernel
theorem dX8_restore_7 : decode cX8_restore 7 = .ok (.ifCond .ne 6, 3) := by decide +kernel
theorem dX8_restore_10 : decode cX8_restore 10 = .ok (.ldc 58, 2) := by decide +kernel
theorem dX8_restore_12 : decode cX8_restore 12 = .ok (.ireturn, 1) := by decide +kernel
theorem dX8_restore_13 : decode cX8_restore 13 = .ok (.aload_n 0, 1) := by decide +kernel
theorem dX8_restore_14 : decode cX8_restore 14 = .ok (.getfield 13, 3) := by decide +kernel
theorem dX8_restore_17 : decode cX8_restore 17 = .ok (.iload_n 1, 1) := by decide +kernel
theorem dX8_restore_18 : decode cX8_restore 18 = .ok (.baload, 1) := by decide +kernel
theorem dX8_restore_19 : decode cX8_restore 19 = .ok (.ifCond .ne 6, 3) := by decide +kernel
theorem dX8_restore_22 : decode cX8_restore 22 = .ok (.ldc 178, 2) := by decide +kernel
theorem dX8_restore_24 : decode cX8_restore 24 = .ok (.ireturn, 1) := by decide +kernel
theorem dX8_restore_25 : decode cX8_restore 25 = .ok (.aload_n 0, 1) := by decide +kernel
theorem dX8_restore_26 : decode cX8_restore 26 = .ok (.sipush 975, 3) := by decide +kernel
theorem dX8_restore_29 : decode cX8_restore 29 = .ok (.bipush 39, 2) := by decide +kernel
theorem dX8_restore_31 : decode cX8_restore 31 = .ok (.iload_n 1, 1) := by decide +kernel
theorem dX8_restore_32 : decode cX8_restore 32 = .ok (.imul, 1) := by decide +kernel
theorem dX8_restore_33 : decode cX8_restore 33 = .ok (.iadd, 1) := by decide +kernel
theorem dX8_restore_34 : decode cX8_restore 34 = .ok (.iconst 0, 1) := by decide +kernel
theorem dX8_restore_35 : decode cX8_restore 35 = .ok (.invokevirtual 131, 3) := by decide +kernel
theorem dX8_restore_38 : decode cX8_restore 38 = .ok (.aload_n 0, 1) := by decide +kernel
theorem dX8_restore_39 : decode cX8_restore 39 = .ok (.iconst 0, 1) := by decide +kernel
theorem dX8_restore_40 : decode cX8_restore 40 = .ok (.putfield 135, 3) := by decide +kernel
theorem dX8_restore_43 : decode cX8_restore 43 = .ok (.iconst 1, 1) := by decide +kernel
theorem dX8_restore_44 : decode cX8_restore 44 = .ok (.ireturn, 1) := by decide +kernel
theorem dX8_kind_0 : decode cX8_kind 0 = .ok (.aload_n 0, 1) := by decide +kernel
theorem dX8_kind_1 : decode cX8_kind 1 = .ok (.iload_n 1, 1) := by decide +kernel
theorem dX8_kind_2 : decode cX8_kind 2 = .ok (.invokevirtual 193, 3) := by decide +kernel
theorem dX8_kind_5 : decode cX8_kind 5 = .ok (.ifCond .eq 14, 3) := by decide +kernel
theorem dX8_kind_8 : decode cX8_kind 8 = .ok (.aload_n 0, 1) := by decide +kernel
theorem dX8_kind_9 : decode cX8_kind 9 = .ok (.getfield 7, 3) := by decide +kernel
theorem dX8_kind_12 : decode cX8_kind 12 = .ok (.iconst 3, 1) := by decide +kernel
theorem dX8_kind_13 : decode cX8_kind 13 = .ok (.iload_n 1, 1) := by decide +kernel
theorem dX8_kind_14 : decode cX8_kind 14 = .ok (.iadd, 1) := by decide +kernel
theorem dX8_kind_15 : decode cX8_kind 15 = .ok (.iaload, 1) := by decide +kernel
theorem dX8_kind_16 : decode cX8_kind 16 = .ok (.goto 5, 3) := by decide +kernel
theorem dX8_kind_19 : decode cX8_kind 19 = .ok (.ldc 58, 2) := by decide +kernel
theorem dX8_kind_21 : decode cX8_kind 21 = .ok (.ireturn, 1) := by decide +kernel
theorem dX8_isOf_0 : decode cX8_isOf 0 = .ok (.aload_n 0, 1) := by decide +kernel
theorem dX8_isOf_1 : decode cX8_isOf 1 = .ok (.getfield 7, 3) := by decide +kernel
theorem dX8_isOf_4 : decode cX8_isOf 4 = .ok (.iconst 3, 1) := by decide +kernel
theorem dX8_isOf_5 : decode cX8_isOf 5 = .ok (.iload_n 1, 1) := by decide +kernel
theorem dX8_isOf_6 : decode cX8_isOf 6 = .ok (.iadd, 1) := by decide +kernel
theorem dX8_isOf_7 : decode cX8_isOf 7 = .ok (.iaload, 1) := by decide +kernel
theorem dX8_isOf_8 : decode cX8_isOf 8 = .ok (.istore_n 3, 1) := by decide +kernel
theorem dX8_isOf_9 : decode cX8_isOf 9 = .ok (.iload_n 2, 1) := by decide +kernel
theorem dX8_isOf_10 : decode cX8_isOf 10 = .ok (.ifCond .eq 28, 3) := by decide +kernel
theorem dX8_isOf_13 : decode cX8_isOf 13 = .ok (.iload_n 2, 1) := by decide +kernel
theorem dX8_isOf_14 : decode cX8_isOf 14 = .ok (.iload_n 3, 1) := by decide +kernel
theorem dX8_isOf_15 : decode cX8_isOf 15 = .ok (.if_icmp .eq 23, 3) := by decide +kernel
theorem dX8_isOf_18 : decode cX8_isOf 18 = .ok (.iload_n 2, 1) := by decide +kernel
theorem dX8_isOf_19 : decode cX8_isOf 19 = .ok (.iconst 1, 1) := by decide +kernel
theorem dX8_isOf_20 : decode cX8_isOf 20 = .ok (.if_icmp .ne 8, 3) := by decide +kernel
theorem dX8_isOf_23 : decode cX8_isOf 23 = .ok (.iload_n 3, 1) := by decide +kernel
theorem dX8_isOf_24 : decode cX8_isOf 24 = .ok (.iconst 4, 1) := by decide +kernel
theorem dX8_isOf_25 : decode cX8_isOf 25 = .ok (.if_icmp .lt 13, 3) := by decide +kernel
theorem dX8_isOf_28 : decode cX8_isOf 28 = .ok (.iload_n 2, 1) := by decide +kernel
theorem dX8_isOf_29 : decode cX8_isOf 29 = .ok (.iconst 4, 1) := by decide +kernel
theorem dX8_isOf_30 : decode cX8_isOf 30 = .ok (.if_icmp .ne 12, 3) := by decide +kernel
theorem dX8_isOf_33 : decode cX8_isOf 33 = .ok (.iload_n 3, 1) := by decide +kernel
theorem dX8_isOf_34 : decode cX8_isOf 34 = .ok (.iconst 5, 1) := by decide +kernel
theorem dX8_isOf_35 : decode cX8_isOf 35 = .ok (.if_icmp .ne 7, 3) := by decide +kernel
theorem dX8_isOf_38 : decode cX8_isOf 38 = .ok (.iconst 1, 1) := by decide +kernel
theorem dX8_isOf_39 : decode cX8_isOf 39 = .ok (.goto 4, 3) := by decide +kernel
theorem dX8_isOf_42 : decode cX8_isOf 42 = .ok (.iconst 0, 1) := by decide +kernel
theorem dX8_isOf_43 : decode cX8_isOf 43 = .ok (.ireturn, 1) := by decide +kernel
theorem dX8_as_0 : decode cX8_as 0 = .ok (.aload_n 0, 1) := by decide +kernel
theorem dX8_as_1 : decode cX8_as 1 = .ok (.iload_n 1, 1) := by decide +kernel
theorem dX8_as_2 : decode cX8_as 2 = .ok (.invokevirtual 193, 3) := by decide +kernel
theorem dX8_as_5 : decode cX8_as 5 = .ok (.ifCond .eq 15, 3) := by decide +kernel
theorem dX8_as_8 : decode cX8_as 8 = .ok (.iload_n 2, 1) := by decide +kernel
theorem dX8_as_9 : decode cX8_as 9 = .ok (.i2l, 1) := by decide +kernel
theorem dX8_as_10 : decode cX8_as 10 = .ok (.lconst 0, 1) := by decide +kernel
theorem dX8_as_11 : decode cX8_as 11 = .ok (.ldc2_w 267, 3) := by decide +kernel
theorem dX8_as_14 : decode cX8_as 14 = .ok (.invokestatic 48, 3) := by decide +kernel
theorem dX8_as_17 : decode cX8_as 17 = .ok (.ifCond .ne 6, 3) := by decide +kernel
theorem dX8_as_20 : decode cX8_as 20 = .ok (.ldc 58, 2) := by decide +kernel
theorem dX8_as_22 : decode cX8_as 22 = .ok (.ireturn, 1) := by decide +kernel
theorem dX8_as_23 : decode cX8_as 23 = .ok (.aload_n 0, 1) := by decide +kernel
theorem dX8_as_24 : decode cX8_as 24 = .ok (.iload_n 1, 1) := by decide +kernel
theorem dX8_as_25 : decode cX8_as 25 = .ok (.iload_n 2, 1) := by decide +kernel
theorem dX8_as_26 : decode cX8_as 26 = .ok (.invokevirtual 269, 3) := by decide +kernel
theorem dX8_as_29 : decode cX8_as 29 = .ok (.ifCond .eq 11, 3) := by decide +kernel
theorem dX8_as_32 : decode cX8_as 32 = .ok (.aload_n 0, 1) := by decide +kernel
theorem dX8_as_33 : decode cX8_as 33 = .ok (.iload_n 1, 1) := by decide +kernel
theorem dX8_as_34 : decode cX8_as 34 = .ok (.invokevirtual 63, 3) := by decide +kernel
theorem dX8_as_37 : decode cX8_as 37 = .ok (.goto 8, 3) := by decide +kernel
theorem dX8_as_40 : decode cX8_as 40 = .ok (.aload_n 0, 1) := by decide +kernel
theorem dX8_as_41 : decode cX8_as 41 = .ok (.iconst 3, 1) := by decide +kernel
theorem dX8_as_42 : decode cX8_as 42 = .ok (.invokevirtual 59, 3) := by decide +kernel
theorem dX8_as_45 : decode cX8_as 45 = .ok (.ireturn, 1) := by decide +kernel
theorem dX8_begin_0 : decode cX8_begin 0 = .ok (.aload_n 0, 1) := by decide +kernel
theorem dX8_begin_1 : decode cX8_begin 1 = .ok (.getfield 272, 3) := by decide +kernel
theorem dX8_begin_4 : decode cX8_begin 4 = .ok (.bipush 16, 2) := by decide +kernel
theorem dX8_begin_6 : decode cX8_begin 6 = .ok (.if_icmp .ge 23, 3) := by decide +kernel
theorem dX8_begin_9 : decode cX8_begin 9 = .ok (.aload_n 0, 1) := by decide +kernel
theorem dX8_begin_10 : decode cX8_begin 10 = .ok (.getfield 29, 3) := by decide +kernel
theorem dX8_begin_13 : decode cX8_begin 13 = .ok (.aload_n 0, 1) := by decide +kernel
theorem dX8_begin_14 : decode cX8_begin 14 = .ok (.getfield 272, 3) := by decide +kernel
theorem dX8_begin_17 : decode cX8_begin 17 = .ok (.iload_n 1, 1) := by decide +kernel
theorem dX8_begin_18 : decode cX8_begin 18 = .ok (.iastore, 1) := by decide +kernel
theorem dX8_begin_19 : decode cX8_begin 19 = .ok (.aload_n 0, 1) := by decide +kernel
theorem dX8_begin_20 : decode cX8_begin 20 = .ok (.dup, 1) := by decide +kernel
theorem dX8_begin_21 : decode cX8_begin 21 = .ok (.getfield 272, 3) := by decide +kernel
theorem dX8_begin_24 : decode cX8_begin 24 = .ok (.iconst 1, 1) := by decide +kernel
theorem dX8_begin_25 : decode cX8_begin 25 = .ok (.iadd, 1) := by decide +kernel
theorem dX8_begin_26 : decode cX8_begin 26 = .ok (.putfield 272, 3) := by decide +kernel
theorem dX8_begin_29 : decode cX8_begin 29 = .ok (.return_, 1) := by decide +kernel
theorem dX8_lentSize_0 : decode cX8_lentSize 0 = .ok (.aload_n 0, 1) := by decide +kernel
theorem dX8_lentSize_1 : decode cX8_lentSize 1 = .ok (.bipush 10, 2) := by decide +kernel
theorem dX8_lentSize_3 : decode cX8_lentSize 3 = .ok (.invokevirtual 275, 3) := by decide +kernel
theorem dX8_lentSize_6 : decode cX8_lentSize 6 = .ok (.aload_n 0, 1) := by decide +kernel
theorem dX8_lentSize_7 : decode cX8_lentSize 7 = .ok (.getfield 7, 3) := by decide +kernel
theorem dX8_lentSize_10 : decode cX8_lentSize 10 = .ok (.bipush 9, 2) := by decide +kernel
theorem dX8_lentSize_12 : decode cX8_lentSize 12 = .ok (.iload_n 1, 1) := by decide +kernel
theorem dX8_lentSize_13 : decode cX8_lentSize 13 = .ok (.iadd, 1) := by decide +kernel
theorem dX8_lentSize_14 : decode cX8_lentSize 14 = .ok (.iaload, 1) := by decide +kernel
theorem dX8_lentSize_15 : decode cX8_lentSize 15 = .ok (.ireturn, 1) := by decide +kernel
theorem dX8_calmSize_0 : decode cX8_calmSize 0 = .ok (.aload_n 0, 1) := by decide +kernel
theorem dX8_calmSize_1 : decode cX8_calmSize 1 = .ok (.bipush 11, 2) := by decide +kernel
theorem dX8_calmSize_3 : decode cX8_calmSize 3 = .ok (.invokevirtual 275, 3) := by decide +kernel
theorem dX8_calmSize_6 : decode cX8_calmSize 6 = .ok (.aload_n 0, 1) := by decide +kernel
theorem dX8_calmSize_7 : decode cX8_calmSize 7 = .ok (.iload_n 1, 1) := by decide +kernel
theorem dX8_calmSize_8 : decode cX8_calmSize 8 = .ok (.invokevirtual 278, 3) := by decide +kernel
theorem dX8_calmSize_11 : decode cX8_calmSize 11 = .ok (.istore_n 2, 1) := by decide +kernel
theorem dX8_calmSize_12 : decode cX8_calmSize 12 = .ok (.iload_n 2, 1) := by decide +kernel
theorem dX8_calmSize_13 : decode cX8_calmSize 13 = .ok (.aload_n 0, 1) := by decide +kernel
theorem dX8_calmSize_14 : decode cX8_calmSize 14 = .ok (.iload_n 1, 1) := by decide +kernel
theorem dX8_calmSize_15 : decode cX8_calmSize 15 = .ok (.invokevirtual 281, 3) := by decide +kernel
theorem dX8_calmSize_18 : decode cX8_calmSize 18 = .ok (.iadd, 1) := by decide +kernel
theorem dX8_calmSize_19 : decode cX8_calmSize 19 = .ok (.ireturn, 1) := by decide +kernel
theorem dX8_slowSize_0 : decode cX8_slowSize 0 = .ok (.aload_n 0, 1) := by decide +kernel
theorem dX8_slowSize_1 : decode cX8_slowSize 1 = .ok (.bipush 13, 2) := by decide +kernel
theorem dX8_slowSize_3 : decode cX8_slowSize 3 = .ok (.invokevirtual 275, 3) := by decide +kernel
theorem dX8_slowSize_6 : decode cX8_slowSize 6 = .ok (.aload_n 0, 1) := by decide +kernel
theorem dX8_slowSize_7 : decode cX8_slowSize 7 = .ok (.iload_n 1, 1) := by decide +kernel
theorem dX8_slowSize_8 : decode cX8_slowSize 8 = .ok (.invokevirtual 278, 3) := by decide +kernel
theorem dX8_slowSize_11 : decode cX8_slowSize 11 = .ok (.bipush 100, 2) := by decide +kernel
theorem dX8_slowSize_13 : decode cX8_slowSize 13 = .ok (.isub, 1) := by decide +kernel
theorem dX8_slowSize_14 : decode cX8_slowSize 14 = .ok (.ireturn, 1) := by decide +kernel
theorem dX8_sizeOf_0 : decode cX8_sizeOf 0 = .ok (.aload_n 0, 1) := by decide +kernel
theorem dX8_sizeOf_1 : decode cX8_sizeOf 1 = .ok (.getfield 7, 3) := by decide +kernel
theorem dX8_sizeOf_4 : decode cX8_sizeOf 4 = .ok (.iconst 3, 1) := by decide +kernel
theorem dX8_sizeOf_5 : decode cX8_sizeOf 5 = .ok (.iload_n 1, 1) := by decide +kernel
theorem dX8_sizeOf_6 : decode cX8_sizeOf 6 = .ok (.iadd, 1) := by decide +kernel
theorem dX8_sizeOf_7 : decode cX8_sizeOf 7 = .ok (.iaload, 1) := by decide +kernel
theorem dX8_sizeOf_8 : decode cX8_sizeOf 8 = .ok (.tableswitch 65 2 5 #[32, 65, 45, 51], 32) := by decide +kernel
theorem dX8_sizeOf_40 : decode cX8_sizeOf 40 = .ok (.aload_n 0, 1) := by decide +kernel
theorem dX8_sizeOf_41 : decode cX8_sizeOf 41 = .ok (.bipush 12, 2) := by decide +kernel
theorem dX8_sizeOf_43 : decode cX8_sizeOf 43 = .ok (.invokevirtual 275, 3) := by decide +kernel
theorem dX8_sizeOf_46 : decode cX8_sizeOf 46 = .ok (.aload_n 0, 1) := by decide +kernel
theorem dX8_sizeOf_47 : decode cX8_sizeOf 47 = .ok (.iload_n 1, 1) := by decide +kernel
theorem dX8_sizeOf_48 : decode cX8_sizeOf 48 = .ok (.invokevirtual 284, 3) := by decide +kernel
theorem dX8_sizeOf_51 : decode cX8_sizeOf 51 = .ok (.ineg, 1) := by decide +kernel
theorem dX8_sizeOf_52 : decode cX8_sizeOf 52 = .ok (.ireturn, 1) := by decide +kernel
theorem dX8_sizeOf_53 : decode cX8_sizeOf 53 = .ok (.aload_n 0, 1) := by decide +kernel
theorem dX8_sizeOf_54 : decode cX8_sizeOf 54 = .ok (.iload_n 1, 1) := by decide +kernel
theorem dX8_sizeOf_55 : decode cX8_sizeOf 55 = .ok (.invokevirtual 287, 3) := by decide +kernel
theorem dX8_sizeOf_58 : decode cX8_sizeOf 58 = .ok (.ireturn, 1) := by decide +kernel
theorem dX8_sizeOf_59 : decode cX8_sizeOf 59 = .ok (.aload_n 0, 1) := by decide +kernel
theorem dX8_sizeOf_60 : decode cX8_sizeOf 60 = .ok (.bipush 14, 2) := by decide +kernel
theorem dX8_sizeOf_62 : decode cX8_sizeOf 62 = .ok (.invokevirtual 275, 3) := by decide +kernel
theorem dX8_sizeOf_65 : decode cX8_sizeOf 65 = .ok (.iconst 2, 1) := by decide +kernel
theorem dX8_sizeOf_66 : decode cX8_sizeOf 66 = .ok (.aload_n 0, 1) := by decide +kernel
theorem dX8_sizeOf_67 : decode cX8_sizeOf 67 = .ok (.iload_n 1, 1) := by decide +kernel
theorem dX8_sizeOf_68 : decode cX8_sizeOf 68 = .ok (.invokevirtual 287, 3) := by decide +kernel
theorem dX8_sizeOf_71 : decode cX8_sizeOf 71 = .ok (.imul, 1) := by decide +kernel
theorem dX8_sizeOf_72 : decode cX8_sizeOf 72 = .ok (.ireturn, 1) := by decide +kernel
theorem dX8_sizeOf_73 : decode cX8_sizeOf 73 = .ok (.aload_n 0, 1) := by decide +kernel
theorem dX8_sizeOf_74 : decode cX8_sizeOf 74 = .ok (.iload_n 1, 1) := by decide +kernel
theorem dX8_sizeOf_75 : decode cX8_sizeOf 75 = .ok (.invokevirtual 284, 3) := by decide +kernel
theorem dX8_sizeOf_78 : decode cX8_sizeOf 78 = .ok (.ireturn, 1) := by decide +kernel
theorem dX8_lentMark_0 : decode cX8_lentMark 0 = .ok (.aload_n 0, 1) := by decide +kernel
theorem dX8_lentMark_1 : decode cX8_lentMark 1 = .ok (.bipush 20, 2) := by decide +kernel
theorem dX8_lentMark_3 : decode cX8_lentMark 3 = .ok (.invokevirtual 275, 3) := by decide +kernel
theorem dX8_lentMark_6 : decode cX8_lentMark 6 = .ok (.iload_n 1, 1) := by decide +kernel
theorem dX8_lentMark_7 : decode cX8_lentMark 7 = .ok (.ireturn, 1) := by decide +kernel
theorem dX8_calmMark_0 : decode cX8_calmMark 0 = .ok (.aload_n 0, 1) := by decide +kernel
theorem dX8_calmMark_1 : decode cX8_calmMark 1 = .ok (.bipush 21, 2) := by decide +kernel
theorem dX8_calmMark_3 : decode cX8_calmMark 3 = .ok (.invokevirtual 275, 3) := by decide +kernel
theorem dX8_calmMark_6 : decode cX8_calmMark 6 = .ok (.aload_n 0, 1) := by decide +kernel
theorem dX8_calmMark_7 : decode cX8_calmMark 7 = .ok (.iload_n 1, 1) := by decide +kernel
theorem dX8_calmMark_8 : decode cX8_calmMark 8 = .ok (.invokevirtual 290, 3) := by decide +kernel
theorem dX8_calmMark_11 : decode cX8_calmMark 11 = .ok (.aload_n 0, 1) := by decide +kernel
theorem dX8_calmMark_12 : decode cX8_calmMark 12 = .ok (.getfield 7, 3) := by decide +kernel
theorem dX8_calmMark_15 : decode cX8_calmMark 15 = .ok (.bipush 21, 2) := by decide +kernel
theorem dX8_calmMark_17 : decode cX8_calmMark 17 = .ok (.iload_n 1, 1) := by decide +kernel
theorem dX8_calmMark_18 : decode cX8_calmMark 18 = .ok (.iadd, 1) := by decide +kernel
theorem dX8_calmMark_19 : decode cX8_calmMark 19 = .ok (.iaload, 1) := by decide +kernel
theorem dX8_calmMark_20 : decode cX8_calmMark 20 = .ok (.iadd, 1) := by decide +kernel
theorem dX8_calmMark_21 : decode cX8_calmMark 21 = .ok (.ireturn, 1) := by decide +kernel
theorem dX8_calmerMark_0 : decode cX8_calmerMark 0 = .ok (.aload_n 0, 1) := by decide +kernel
theorem dX8_calmerMark_1 : decode cX8_calmerMark 1 = .ok (.getfield 7, 3) := by decide +kernel
theorem dX8_calmerMark_4 : decode cX8_calmerMark 4 = .ok (.iconst 3, 1) := by decide +kernel
theorem dX8_calmerMark_5 : decode cX8_calmerMark 5 = .ok (.iload_n 1, 1) := by decide +kernel
theorem dX8_calmerMark_6 : decode cX8_calmerMark 6 = .ok (.iadd, 1) := by decide +kernel
theorem dX8_calmerMark_7 : decode cX8_calmerMark 7 = .ok (.iaload, 1) := by decide +kernel
theorem dX8_calmerMark_8 : decode cX8_calmerMark 8 = .ok (.lookupswitch 58 #[(2, 44), (3, 28)], 28) := by decide +kernel
theorem dX8_calmerMark_36 : decode cX8_calmerMark 36 = .ok (.aload_n 0, 1) := by decide +kernel
theorem dX8_calmerMark_37 : decode cX8_calmerMark 37 = .ok (.bipush 22, 2) := by decide +kernel
theorem dX8_calmerMark_39 : decode cX8_calmerMark 39 = .ok (.invokevirtual 275, 3) := by decide +kernel
theorem dX8_calmerMark_42 : decode cX8_calmerMark 42 = .ok (.aload_n 0, 1) := by decide +kernel
theorem dX8_calmerMark_43 : decode cX8_calmerMark 43 = .ok (.iload_n 1, 1) := by decide +kernel
theorem dX8_calmerMark_44 : decode cX8_calmerMark 44 = .ok (.invokevirtual 293, 3) := by decide +kernel
theorem dX8_calmerMark_47 : decode cX8_calmerMark 47 = .ok (.sipush 1000, 3) := by decide +kernel
theorem dX8_calmerMark_50 : decode cX8_calmerMark 50 = .ok (.isub, 1) := by decide +kernel
theorem dX8_calmerMark_51 : decode cX8_calmerMark 51 = .ok (.ireturn, 1) := by decide +kernel
theorem dX8_calmerMark_52 : decode cX8_calmerMark 52 = .ok (.aload_n 0, 1) := by decide +kernel
theorem dX8_calmerMark_53 : decode cX8_calmerMark 53 = .ok (.bipush 24, 2) := by decide +kernel
theorem dX8_calmerMark_55 : decode cX8_calmerMark 55 = .ok (.invokevirtual 275, 3) := by decide +kernel
theorem dX8_calmerMark_58 : decode cX8_calmerMark 58 = .ok (.iconst 2, 1) := by decide +kernel
theorem dX8_calmerMark_59 : decode cX8_calmerMark 59 = .ok (.aload_n 0, 1) := by decide +kernel
theorem dX8_calmerMark_60 : decode cX8_calmerMark 60 = .ok (.iload_n 1, 1) := by decide +kernel
theorem dX8_calmerMark_61 : decode cX8_calmerMark 61 = .ok (.invokevirtual 293, 3) := by decide +kernel
theorem dX8_calmerMark_64 : decode cX8_calmerMark 64 = .ok (.imul, 1) := by decide +kernel
theorem dX8_calmerMark_65 : decode cX8_calmerMark 65 = .ok (.ireturn, 1) := by decide +kernel
theorem dX8_calmerMark_66 : decode cX8_calmerMark 66 = .ok (.aload_n 0, 1) := by decide +kernel
theorem dX8_calmerMark_67 : decode cX8_calmerMark 67 = .ok (.iload_n 1, 1) := by decide +kernel
theorem dX8_calmerMark_68 : decode cX8_calmerMark 68 = .ok (.invokevirtual 293, 3) := by decide +kernel
theorem dX8_calmerMark_71 : decode cX8_calmerMark 71 = .ok (.ireturn, 1) := by decide +kernel
theorem dX8_slowMark_0 : decode cX8_slowMark 0 = .ok (.aload_n 0, 1) := by decide +kernel
theorem dX8_slowMark_1 : decode cX8_slowMark 1 = .ok (.bipush 23, 2) := by decide +kernel
theorem dX8_slowMark_3 : decode cX8_slowMark 3 = .ok (.invokevirtual 275, 3) := by decide +kernel
theorem dX8_slowMark_6 : decode cX8_slowMark 6 = .ok (.aload_n 0, 1) := by decide +kernel
theorem dX8_slowMark_7 : decode cX8_slowMark 7 = .ok (.iload_n 1, 1) := by decide +kernel
theorem dX8_slowMark_8 : decode cX8_slowMark 8 = .ok (.invokevirtual 290, 3) := by decide +kernel
theorem dX8_slowMark_11 : decode cX8_slowMark 11 = .ok (.istore_n 2, 1) := by decide +kernel
theorem dX8_slowMark_12 : decode cX8_slowMark 12 = .ok (.iload_n 2, 1) := by decide +kernel
theorem dX8_slowMark_13 : decode cX8_slowMark 13 = .ok (.aload_n 0, 1) := by decide +kernel
theorem dX8_slowMark_14 : decode cX8_slowMark 14 = .ok (.iload_n 1, 1) := by decide +kernel
theorem dX8_slowMark_15 : decode cX8_slowMark 15 = .ok (.invokevirtual 296, 3) := by decide +kernel
theorem dX8_slowMark_18 : decode cX8_slowMark 18 = .ok (.isub, 1) := by decide +kernel
theorem dX8_slowMark_19 : decode cX8_slowMark 19 = .ok (.ireturn, 1) := by decide +kernel
theorem dX8_ask_0 : decode cX8_ask 0 = .ok (.aload_n 0, 1) := by decide +kernel
theorem dX8_ask_1 : decode cX8_ask 1 = .ok (.iload_n 1, 1) := by decide +kernel
theorem dX8_ask_2 : decode cX8_ask 2 = .ok (.invokevirtual 193, 3) := by decide +kernel
theorem dX8_ask_5 : decode cX8_ask 5 = .ok (.ifCond .eq 13, 3) := by decide +kernel
theorem dX8_ask_8 : decode cX8_ask 8 = .ok (.iload_n 2, 1) := by decide +kernel
theorem dX8_ask_9 : decode cX8_ask 9 = .ok (.i2l, 1) := by decide +kernel
theorem dX8_ask_10 : decode cX8_ask 10 = .ok (.lconst 0, 1) := by decide +kernel
theorem dX8_ask_11 : decode cX8_ask 11 = .ok (.lconst 1, 1) := by decide +kernel
theorem dX8_ask_12 : decode cX8_ask 12 = .ok (.invokestatic 48, 3) := by decide +kernel
theorem dX8_ask_15 : decode cX8_ask 15 = .ok (.ifCond .ne 6, 3) := by decide +kernel
theorem dX8_ask_18 : decode cX8_ask 18 = .ok (.ldc 58, 2) := by decide +kernel
theorem dX8_ask_20 : decode cX8_ask 20 = .ok (.ireturn, 1) := by decide +kernel
theorem dX8_ask_21 : decode cX8_ask 21 = .ok (.aload_n 0, 1) := by decide +kernel
theorem dX8_ask_22 : decode cX8_ask 22 = .ok (.iconst 0, 1) := by decide +kernel
theorem dX8_ask_23 : decode cX8_ask 23 = .ok (.putfield 272, 3) := by decide +kernel
theorem dX8_ask_26 : decode cX8_ask 26 = .ok (.iload_n 2, 1) := by decide +kernel
theorem dX8_ask_27 : decode cX8_ask 27 = .ok (.ifCond .ne 11, 3) := by decide +kernel
theorem dX8_ask_30 : decode cX8_ask 30 = .ok (.aload_n 0, 1) := by decide +kernel
theorem dX8_ask_31 : decode cX8_ask 31 = .ok (.iload_n 1, 1) := by decide +kernel
theorem dX8_ask_32 : decode cX8_ask 32 = .ok (.invokevirtual 296, 3) := by decide +kernel
theorem dX8_ask_35 : decode cX8_ask 35 = .ok (.goto 25, 3) := by decide +kernel
theorem dX8_ask_38 : decode cX8_ask 38 = .ok (.aload_n 0, 1) := by decide +kernel
theorem dX8_ask_39 : decode cX8_ask 39 = .ok (.iload_n 1, 1) := by decide +kernel
theorem dX8_ask_40 : decode cX8_ask 40 = .ok (.iconst 4, 1) := by decide +kernel
theorem dX8_ask_41 : decode cX8_ask 41 = .ok (.invokevirtual 269, 3) := by decide +kernel
theorem dX8_ask_44 : decode cX8_ask 44 = .ok (.ifCond .eq 11, 3) := by decide +kernel
theorem dX8_ask_47 : decode cX8_ask 47 = .ok (.aload_n 0, 1) := by decide +kernel
theorem dX8_ask_48 : decode cX8_ask 48 = .ok (.iload_n 1, 1) := by decide +kernel
theorem dX8_ask_49 : decode cX8_ask 49 = .ok (.invokevirtual 299, 3) := by decide +kernel
theorem dX8_ask_52 : decode cX8_ask 52 = .ok (.goto 8, 3) := by decide +kernel
theorem dX8_ask_55 : decode cX8_ask 55 = .ok (.aload_n 0, 1) := by decide +kernel
theorem dX8_ask_56 : decode cX8_ask 56 = .ok (.iload_n 1, 1) := by decide +kernel
theorem dX8_ask_57 : decode cX8_ask 57 = .ok (.invokevirtual 281, 3) := by decide +kernel
theorem dX8_ask_60 : decode cX8_ask 60 = .ok (.ireturn, 1) := by decide +kernel
theorem dX8_trace_0 : decode cX8_trace 0 = .ok (.iload_n 1, 1) := by decide +kernel
theorem dX8_trace_1 : decode cX8_trace 1 = .ok (.i2l, 1) := by decide +kernel
theorem dX8_trace_2 : decode cX8_trace 2 = .ok (.lconst 0, 1) := by decide +kernel
theorem dX8_trace_3 : decode cX8_trace 3 = .ok (.aload_n 0, 1) := by decide +kernel
theorem dX8_trace_4 : decode cX8_trace 4 = .ok (.getfield 272, 3) := by decide +kernel
theorem dX8_trace_7 : decode cX8_trace 7 = .ok (.iconst 1, 1) := by decide +kernel
theorem dX8_trace_8 : decode cX8_trace 8 = .ok (.isub, 1) := by decide +kernel
theorem dX8_trace_9 : decode cX8_trace 9 = .ok (.i2l, 1) := by decide +kernel
theorem dX8_trace_10 : decode cX8_trace 10 = .ok (.invokestatic 48, 3) := by decide +kernel
theorem dX8_trace_13 : decode cX8_trace 13 = .ok (.ifCond .eq 12, 3) := by decide +kernel
theorem dX8_trace_16 : decode cX8_trace 16 = .ok (.aload_n 0, 1) := by decide +kernel
theorem dX8_trace_17 : decode cX8_trace 17 = .ok (.getfield 29, 3) := by decide +kernel
theorem dX8_trace_20 : decode cX8_trace 20 = .ok (.iload_n 1, 1) := by decide +kernel
theorem dX8_trace_21 : decode cX8_trace 21 = .ok (.iaload, 1) := by decide +kernel
theorem dX8_trace_22 : decode cX8_trace 22 = .ok (.goto 5, 3) := by decide +kernel
theorem dX8_trace_25 : decode cX8_trace 25 = .ok (.ldc 116, 2) := by decide +kernel
theorem dX8_trace_27 : decode cX8_trace 27 = .ok (.ireturn, 1) := by decide +kernel
theorem dX8_count_0 : decode cX8_count 0 = .ok (.iconst 0, 1) := by decide +kernel
theorem dX8_count_1 : decode cX8_count 1 = .ok (.istore_n 2, 1) := by decide +kernel
theorem dX8_count_2 : decode cX8_count 2 = .ok (.iload_n 1, 1) := by decide +kernel
theorem dX8_count_3 : decode cX8_count 3 = .ok (.tableswitch 124 0 7 #[45, 78, 85, 92, 99, 108, 114, 119], 45) := by decide +kernel
theorem dX8_count_48 : decode cX8_count 48 = .ok (.iconst 0, 1) := by decide +kernel
theorem dX8_count_49 : decode cX8_count 49 = .ok (.istore_n 3, 1) := by decide +kernel
theorem dX8_count_50 : decode cX8_count 50 = .ok (.iload_n 3, 1) := by decide +kernel
theorem dX8_count_51 : decode cX8_count 51 = .ok (.bipush 8, 2) := by decide +kernel
theorem dX8_count_53 : decode cX8_count 53 = .ok (.if_icmp .ge 26, 3) := by decide +kernel
theorem dX8_count_56 : decode cX8_count 56 = .ok (.iload_n 2, 1) := by decide +kernel
theorem dX8_count_57 : decode cX8_count 57 = .ok (.aload_n 0, 1) := by decide +kernel
theorem dX8_count_58 : decode cX8_count 58 = .ok (.getfield 20, 3) := by decide +kernel
theorem dX8_count_61 : decode cX8_count 61 = .ok (.iload_n 3, 1) := by decide +kernel
theorem dX8_count_62 : decode cX8_count 62 = .ok (.iaload, 1) := by decide +kernel
theorem dX8_count_63 : decode cX8_count 63 = .ok (.ifCond .ge 7, 3) := by decide +kernel
theorem dX8_count_66 : decode cX8_count 66 = .ok (.iconst 0, 1) := by decide +kernel
theorem dX8_count_67 : decode cX8_count 67 = .ok (.goto 4, 3) := by decide +kernel
theorem dX8_count_70 : decode cX8_count 70 = .ok (.iconst 1, 1) := by decide +kernel
theorem dX8_count_71 : decode cX8_count 71 = .ok (.iadd, 1) := by decide +kernel
theorem dX8_count_72 : decode cX8_count 72 = .ok (.istore_n 2, 1) := by decide +kernel
theorem dX8_count_73 : decode cX8_count 73 = .ok (.iinc 3 1, 3) := by decide +kernel
theorem dX8_count_76 : decode cX8_count 76 = .ok (.goto (-26), 3) := by decide +kernel
theorem dX8_count_79 : decode cX8_count 79 = .ok (.iload_n 2, 1) := by decide +kernel
theorem dX8_count_80 : decode cX8_count 80 = .ok (.ireturn, 1) := by decide +kernel
theorem dX8_count_81 : decode cX8_count 81 = .ok (.aload_n 0, 1) := by decide +kernel
theorem dX8_count_82 : decode cX8_count 82 = .ok (.getfield 7, 3) := by decide +kernel
theorem dX8_count_85 : decode cX8_count 85 = .ok (.iconst 1, 1) := by decide +kernel
theorem dX8_count_86 : decode cX8_count 86 = .ok (.iaload, 1) := by decide +kernel
theorem dX8_count_87 : decode cX8_count 87 = .ok (.ireturn, 1) := by decide +kernel
theorem dX8_count_88 : decode cX8_count 88 = .ok (.aload_n 0, 1) := by decide +kernel
theorem dX8_count_89 : decode cX8_count 89 = .ok (.getfield 7, 3) := by decide +kernel
theorem dX8_count_92 : decode cX8_count 92 = .ok (.iconst 0, 1) := by decide +kernel
theorem dX8_count_93 : decode cX8_count 93 = .ok (.iaload, 1) := by decide +kernel
theorem dX8_count_94 : decode cX8_count 94 = .ok (.ireturn, 1) := by decide +kernel
theorem dX8_count_95 : decode cX8_count 95 = .ok (.aload_n 0, 1) := by decide +kernel
theorem dX8_count_96 : decode cX8_count 96 = .ok (.getfield 7, 3) := by decide +kernel
theorem dX8_count_99 : decode cX8_count 99 = .ok (.iconst 2, 1) := by decide +kernel
theorem dX8_count_100 : decode cX8_count 100 = .ok (.iaload, 1) := by decide +kernel
theorem dX8_count_101 : decode cX8_count 101 = .ok (.ireturn, 1) := by decide +kernel
theorem dX8_count_102 : decode cX8_count 102 = .ok (.aload_n 0, 1) := by decide +kernel
theorem dX8_count_103 : decode cX8_count 103 = .ok (.iconst 0, 1) := by decide +kernel
theorem dX8_count_104 : decode cX8_count 104 = .ok (.invokevirtual 190, 3) := by decide +kernel
theorem dX8_count_107 : decode cX8_count 107 = .ok (.invokestatic 207, 3) := by decide +kernel
theorem dX8_count_110 : decode cX8_count 110 = .ok (.ireturn, 1) := by decide +kernel
theorem dX8_count_111 : decode cX8_count 111 = .ok (.aload_n 0, 1) := by decide +kernel
theorem dX8_count_112 : decode cX8_count 112 = .ok (.iconst 0, 1) := by decide +kernel
theorem dX8_count_113 : decode cX8_count 113 = .ok (.invokevirtual 234, 3) := by decide +kernel
theorem dX8_count_116 : decode cX8_count 116 = .ok (.ireturn, 1) := by decide +kernel
theorem dX8_count_117 : decode cX8_count 117 = .ok (.aload_n 0, 1) := by decide +kernel
theorem dX8_count_118 : decode cX8_count 118 = .ok (.getfield 135, 3) := by decide +kernel
theorem dX8_count_121 : decode cX8_count 121 = .ok (.ireturn, 1) := by decide +kernel
theorem dX8_count_122 : decode cX8_count 122 = .ok (.aload_n 0, 1) := by decide +kernel
theorem dX8_count_123 : decode cX8_count 123 = .ok (.getfield 76, 3) := by decide +kernel
theorem dX8_count_126 : decode cX8_count 126 = .ok (.ireturn, 1) := by decide +kernel
theorem dX8_count_127 : decode cX8_count 127 = .ok (.ldc 58, 2) := by decide +kernel
theorem dX8_count_129 : decode cX8_count 129 = .ok (.ireturn, 1) := by decide +kernel
theorem dX8_status_0 : decode cX8_status 0 = .ok (.aload_n 0, 1) := by decide +kernel
theorem dX8_status_1 : decode cX8_status 1 = .ok (.getfield 41, 3) := by decide +kernel
theorem dX8_status_4 : decode cX8_status 4 = .ok (.ireturn, 1) := by decide +kernel
