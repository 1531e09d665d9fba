theorem dX3_init_0 : decode cX3_init 0 = .ok (.aload_n 0, 1) := by decide +kernel
theorem dX3_init_1 : decode cX3_init 1 = .ok (.invokespecial 3, 3) := by decide +kernel
theorem dX3_init_4 : decode cX3_init 4 = .ok (.aload_n 0, 1) := by decide +kernel
theorem dX3_init_5 : decode cX3_init 5 = .ok (.bipush 6, 2) := by decide +kernel
theorem dX3_init_7 : decode cX3_init 7 = .ok (.newarray .int, 2) := by decide +kernel
theorem dX3_init_9 : decode cX3_init 9 = .ok (.putfield 9, 3) := by decide +kernel
theorem dX3_init_12 : decode cX3_init 12 = .ok (.aload_n 0, 1) := by decide +kernel
theorem dX3_init_13 : decode cX3_init 13 = .ok (.bipush 6, 2) := by decide +kernel
theorem dX3_init_15 : decode cX3_init 15 = .ok (.newarray .int, 2) := by decide +kernel
theorem dX3_init_17 : decode cX3_init 17 = .ok (.putfield 15, 3) := by decide +kernel
theorem dX3_init_20 : decode cX3_init 20 = .ok (.aload_n 0, 1) := by decide +kernel
theorem dX3_init_21 : decode cX3_init 21 = .ok (.bipush 6, 2) := by decide +kernel
theorem dX3_init_23 : decode cX3_init 23 = .ok (.newarray .int, 2) := by decide +kernel
theorem dX3_init_25 : decode cX3_init 25 = .ok (.putfield 18, 3) := by decide +kernel
theorem dX3_init_28 : decode cX3_init 28 = .ok (.aload_n 0, 1) := by decide +kernel
theorem dX3_init_29 : decode cX3_init 29 = .ok (.bipush 6, 2) := by decide +kernel
theorem dX3_init_31 : decode cX3_init 31 = .ok (.newarray .int, 2) := by decide +kernel
theorem dX3_init_33 : decode cX3_init 33 = .ok (.putfield 21, 3) := by decide +kernel
theorem dX3_init_36 : decode cX3_init 36 = .ok (.aload_n 0, 1) := by decide +kernel
theorem dX3_init_37 : decode cX3_init 37 = .ok (.bipush 6, 2) := by decide +kernel
theorem dX3_init_39 : decode cX3_init 39 = .ok (.newarray .int, 2) := by decide +kernel
theorem dX3_init_41 : decode cX3_init 41 = .ok (.putfield 24, 3) := by decide +kernel
theorem dX3_init_44 : decode cX3_init 44 = .ok (.aload_n 0, 1) := by decide +kernel
theorem dX3_init_45 : decode cX3_init 45 = .ok (.bipush 6, 2) := by decide +kernel
theorem dX3_init_47 : decode cX3_init 47 = .ok (.newarray .int, 2) := by decide +kernel
theorem dX3_init_49 : decode cX3_init 49 = .ok (.putfield 27, 3) := by decide +kernel
theorem dX3_init_52 : decode cX3_init 52 = .ok (.aload_n 0, 1) := by decide +kernel
theorem dX3_init_53 : decode cX3_init 53 = .ok (.bipush 12, 2) := by decide +kernel
theorem dX3_init_55 : decode cX3_init 55 = .ok (.newarray .int, 2) := by decide +kernel
theorem dX3_init_57 : decode cX3_init 57 = .ok (.putfield 30, 3) := by decide +kernel
theorem dX3_init_60 : decode cX3_init 60 = .ok (.return_, 1) := by decide +kernel
theorem dX3_begin_0 : decode cX3_begin 0 = .ok (.aload_n 0, 1) := by decide +kernel
theorem dX3_begin_1 : decode cX3_begin 1 = .ok (.iload_n 1, 1) := by decide +kernel
theorem dX3_begin_2 : decode cX3_begin 2 = .ok (.putfield 33, 3) := by decide +kernel
theorem dX3_begin_5 : decode cX3_begin 5 = .ok (.aload_n 0, 1) := by decide +kernel
theorem dX3_begin_6 : decode cX3_begin 6 = .ok (.iconst 0, 1) := by decide +kernel
theorem dX3_begin_7 : decode cX3_begin 7 = .ok (.putfield 37, 3) := by decide +kernel
theorem dX3_begin_10 : decode cX3_begin 10 = .ok (.aload_n 0, 1) := by decide +kernel
theorem dX3_begin_11 : decode cX3_begin 11 = .ok (.iconst 0, 1) := by decide +kernel
theorem dX3_begin_12 : decode cX3_begin 12 = .ok (.putfield 40, 3) := by decide +kernel
theorem dX3_begin_15 : decode cX3_begin 15 = .ok (.aload_n 0, 1) := by decide +kernel
theorem dX3_begin_16 : decode cX3_begin 16 = .ok (.iconst 0, 1) := by decide +kernel
theorem dX3_begin_17 : decode cX3_begin 17 = .ok (.putfield 43, 3) := by decide +kernel
theorem dX3_begin_20 : decode cX3_begin 20 = .ok (.aload_n 0, 1) := by decide +kernel
theorem dX3_begin_21 : decode cX3_begin 21 = .ok (.iconst 0, 1) := by decide +kernel
theorem dX3_begin_22 : decode cX3_begin 22 = .ok (.putfield 46, 3) := by decide +kernel
theorem dX3_begin_25 : decode cX3_begin 25 = .ok (.aload_n 0, 1) := by decide +kernel
theorem dX3_begin_26 : decode cX3_begin 26 = .ok (.iconst 0, 1) := by decide +kernel
theorem dX3_begin_27 : decode cX3_begin 27 = .ok (.putfield 49, 3) := by decide +kernel
theorem dX3_begin_30 : decode cX3_begin 30 = .ok (.aload_n 0, 1) := by decide +kernel
theorem dX3_begin_31 : decode cX3_begin 31 = .ok (.getfield 30, 3) := by decide +kernel
theorem dX3_begin_34 : decode cX3_begin 34 = .ok (.ldc 52, 2) := by decide +kernel
theorem dX3_begin_36 : decode cX3_begin 36 = .ok (.invokestatic 53, 3) := by decide +kernel
theorem dX3_begin_39 : decode cX3_begin 39 = .ok (.return_, 1) := by decide +kernel
theorem dX3_join_0 : decode cX3_join 0 = .ok (.aload_n 0, 1) := by decide +kernel
theorem dX3_join_1 : decode cX3_join 1 = .ok (.getfield 37, 3) := by decide +kernel
theorem dX3_join_4 : decode cX3_join 4 = .ok (.bipush 6, 2) := by decide +kernel
theorem dX3_join_6 : decode cX3_join 6 = .ok (.if_icmp .ge 85, 3) := by decide +kernel
theorem dX3_join_9 : decode cX3_join 9 = .ok (.aload_n 0, 1) := by decide +kernel
theorem dX3_join_10 : decode cX3_join 10 = .ok (.getfield 9, 3) := by decide +kernel
theorem dX3_join_13 : decode cX3_join 13 = .ok (.aload_n 0, 1) := by decide +kernel
theorem dX3_join_14 : decode cX3_join 14 = .ok (.getfield 37, 3) := by decide +kernel
theorem dX3_join_17 : decode cX3_join 17 = .ok (.iload_n 1, 1) := by decide +kernel
theorem dX3_join_18 : decode cX3_join 18 = .ok (.iastore, 1) := by decide +kernel
theorem dX3_join_19 : decode cX3_join 19 = .ok (.aload_n 0, 1) := by decide +kernel
theorem dX3_join_20 : decode cX3_join 20 = .ok (.getfield 15, 3) := by decide +kernel
theorem dX3_join_23 : decode cX3_join 23 = .ok (.aload_n 0, 1) := by decide +kernel
theorem dX3_join_24 : decode cX3_join 24 = .ok (.getfield 37, 3) := by decide +kernel
theorem dX3_join_27 : decode cX3_join 27 = .ok (.iload_n 2, 1) := by decide +kernel
theorem dX3_join_28 : decode cX3_join 28 = .ok (.iastore, 1) := by decide +kernel
theorem dX3_join_29 : decode cX3_join 29 = .ok (.aload_n 0, 1) := by decide +kernel
theorem dX3_join_30 : decode cX3_join 30 = .ok (.getfield 18, 3) := by decide +kernel
theorem dX3_join_33 : decode cX3_join 33 = .ok (.aload_n 0, 1) := by decide +kernel
theorem dX3_join_34 : decode cX3_join 34 = .ok (.getfield 37, 3) := by decide +kernel
theorem dX3_join_37 : decode cX3_join 37 = .ok (.iconst 0, 1) := by decide +kernel
theorem dX3_join_38 : decode cX3_join 38 = .ok (.iastore, 1) := by decide +kernel
theorem dX3_join_39 : decode cX3_join 39 = .ok (.aload_n 0, 1) := by decide +kernel
theorem dX3_join_40 : decode cX3_join 40 = .ok (.getfield 21, 3) := by decide +kernel
theorem dX3_join_43 : decode cX3_join 43 = .ok (.aload_n 0, 1) := by decide +kernel
theorem dX3_join_44 : decode cX3_join 44 = .ok (.getfield 37, 3) := by decide +kernel
theorem dX3_join_47 : decode cX3_join 47 = .ok (.ldc 52, 2) := by decide +kernel
theorem dX3_join_49 : decode cX3_join 49 = .ok (.iastore, 1) := by decide +kernel
theorem dX3_join_50 : decode cX3_join 50 = .ok (.aload_n 0, 1) := by decide +kernel
theorem dX3_join_51 : decode cX3_join 51 = .ok (.getfield 24, 3) := by decide +kernel
theorem dX3_join_54 : decode cX3_join 54 = .ok (.aload_n 0, 1) := by decide +kernel
theorem dX3_join_55 : decode cX3_join 55 = .ok (.getfield 37, 3) := by decide +kernel
theorem dX3_join_58 : decode cX3_join 58 = .ok (.iload_n 3, 1) := by decide +kernel
theorem dX3_join_59 : decode cX3_join 59 = .ok (.iastore, 1) := by decide +kernel
theorem dX3_join_60 : decode cX3_join 60 = .ok (.aload_n 0, 1) := by decide +kernel
theorem dX3_join_61 : decode cX3_join 61 = .ok (.getfield 27, 3) := by decide +kernel
theorem dX3_join_64 : decode cX3_join 64 = .ok (.aload_n 0, 1) := by decide +kernel
theorem dX3_join_65 : decode cX3_join 65 = .ok (.getfield 37, 3) := by decide +kernel
theorem dX3_join_68 : decode cX3_join 68 = .ok (.bipush 20, 2) := by decide +kernel
theorem dX3_join_70 : decode cX3_join 70 = .ok (.iastore, 1) := by decide +kernel
theorem dX3_join_71 : decode cX3_join 71 = .ok (.aload_n 0, 1) := by decide +kernel
theorem dX3_join_72 : decode cX3_join 72 = .ok (.dup, 1) := by decide +kernel
theorem dX3_join_73 : decode cX3_join 73 = .ok (.getfield 49, 3) := by decide +kernel
theorem dX3_join_76 : decode cX3_join 76 = .ok (.iconst 1, 1) := by decide +kernel
theorem dX3_join_77 : decode cX3_join 77 = .ok (.iadd, 1) := by decide +kernel
theorem dX3_join_78 : decode cX3_join 78 = .ok (.putfield 49, 3) := by decide +kernel
theorem dX3_join_81 : decode cX3_join 81 = .ok (.aload_n 0, 1) := by decide +kernel
theorem dX3_join_82 : decode cX3_join 82 = .ok (.dup, 1) := by decide +kernel
theorem dX3_join_83 : decode cX3_join 83 = .ok (.getfield 37, 3) := by decide +kernel
theorem dX3_join_86 : decode cX3_join 86 = .ok (.iconst 1, 1) := by decide +kernel
theorem dX3_join_87 : decode cX3_join 87 = .ok (.iadd, 1) := by decide +kernel
theorem dX3_join_88 : decode cX3_join 88 = .ok (.putfield 37, 3) := by decide +kernel
theorem dX3_join_91 : decode cX3_join 91 = .ok (.return_, 1) := by decide +kernel
theorem dX3_become_0 : decode cX3_become 0 = .ok (.aload_n 0, 1) := by decide +kernel
theorem dX3_become_1 : decode cX3_become 1 = .ok (.aload_n 1, 1) := by decide +kernel
theorem dX3_become_2 : decode cX3_become 2 = .ok (.getfield 33, 3) := by decide +kernel
theorem dX3_become_5 : decode cX3_become 5 = .ok (.putfield 33, 3) := by decide +kernel
theorem dX3_become_8 : decode cX3_become 8 = .ok (.aload_n 0, 1) := by decide +kernel
theorem dX3_become_9 : decode cX3_become 9 = .ok (.aload_n 1, 1) := by decide +kernel
theorem dX3_become_10 : decode cX3_become 10 = .ok (.getfield 37, 3) := by decide +kernel
theorem dX3_become_13 : decode cX3_become 13 = .ok (.putfield 37, 3) := by decide +kernel
theorem dX3_become_16 : decode cX3_become 16 = .ok (.aload_n 0, 1) := by decide +kernel
theorem dX3_become_17 : decode cX3_become 17 = .ok (.aload_n 1, 1) := by decide +kernel
theorem dX3_become_18 : decode cX3_become 18 = .ok (.getfield 40, 3) := by decide +kernel
theorem dX3_become_21 : decode cX3_become 21 = .ok (.putfield 40, 3) := by decide +kernel
theorem dX3_become_24 : decode cX3_become 24 = .ok (.aload_n 0, 1) := by decide +kernel
theorem dX3_become_25 : decode cX3_become 25 = .ok (.aload_n 1, 1) := by decide +kernel
theorem dX3_become_26 : decode cX3_become 26 = .ok (.getfield 43, 3) := by decide +kernel
theorem dX3_become_29 : decode cX3_become 29 = .ok (.putfield 43, 3) := by decide +kernel
theorem dX3_become_32 : decode cX3_become 32 = .ok (.aload_n 0, 1) := by decide +kernel
theorem dX3_become_33 : decode cX3_become 33 = .ok (.aload_n 1, 1) := by decide +kernel
theorem dX3_become_34 : decode cX3_become 34 = .ok (.getfield 46, 3) := by decide +kernel
theorem dX3_become_37 : decode cX3_become 37 = .ok (.putfield 46, 3) := by decide +kernel
theorem dX3_become_40 : decode cX3_become 40 = .ok (.aload_n 0, 1) := by decide +kernel
theorem dX3_become_41 : decode cX3_become 41 = .ok (.aload_n 1, 1) := by decide +kernel
theorem dX3_become_42 : decode cX3_become 42 = .ok (.getfield 49, 3) := by decide +kernel
theorem dX3_become_45 : decode cX3_become 45 = .ok (.putfield 49, 3) := by decide +kernel
theorem dX3_become_48 : decode cX3_become 48 = .ok (.aload_n 1, 1) := by decide +kernel
theorem dX3_become_49 : decode cX3_become 49 = .ok (.getfield 9, 3) := by decide +kernel
theorem dX3_become_52 : decode cX3_become 52 = .ok (.iconst 0, 1) := by decide +kernel
theorem dX3_become_53 : decode cX3_become 53 = .ok (.aload_n 0, 1) := by decide +kernel
theorem dX3_become_54 : decode cX3_become 54 = .ok (.getfield 9, 3) := by decide +kernel
theorem dX3_become_57 : decode cX3_become 57 = .ok (.iconst 0, 1) := by decide +kernel
theorem dX3_become_58 : decode cX3_become 58 = .ok (.bipush 6, 2) := by decide +kernel
theorem dX3_become_60 : decode cX3_become 60 = .ok (.invokestatic 59, 3) := by decide +kernel
theorem dX3_become_63 : decode cX3_become 63 = .ok (.aload_n 1, 1) := by decide +kernel
theorem dX3_become_64 : decode cX3_become 64 = .ok (.getfield 15, 3) := by decide +kernel
theorem dX3_become_67 : decode cX3_become 67 = .ok (.iconst 0, 1) := by decide +kernel
theorem dX3_become_68 : decode cX3_become 68 = .ok (.aload_n 0, 1) := by decide +kernel
theorem dX3_become_69 : decode cX3_become 69 = .ok (.getfield 15, 3) := by decide +kernel
theorem dX3_become_72 : decode cX3_become 72 = .ok (.iconst 0, 1) := by decide +kernel
theorem dX3_become_73 : decode cX3_become 73 = .ok (.bipush 6, 2) := by decide +kernel
theorem dX3_become_75 : decode cX3_become 75 = .ok (.invokestatic 59, 3) := by decide +kernel
theorem dX3_become_78 : decode cX3_become 78 = .ok (.aload_n 1, 1) := by decide +kernel
theorem dX3_become_79 : decode cX3_become 79 = .ok (.getfield 18, 3) := by decide +kernel
theorem dX3_become_82 : decode cX3_become 82 = .ok (.iconst 0, 1) := by decide +kernel
theorem dX3_become_83 : decode cX3_become 83 = .ok (.aload_n 0, 1) := by decide +kernel
theorem dX3_become_84 : decode cX3_become 84 = .ok (.getfield 18, 3) := by decide +kernel
theorem dX3_become_87 : decode cX3_become 87 = .ok (.iconst 0, 1) := by decide +kernel
theorem dX3_become_88 : decode cX3_become 88 = .ok (.bipush 6, 2) := by decide +kernel
theorem dX3_become_90 : decode cX3_become 90 = .ok (.invokestatic 59, 3) := by decide +kernel
theorem dX3_become_93 : decode cX3_become 93 = .ok (.aload_n 1, 1) := by decide +kernel
theorem dX3_become_94 : decode cX3_become 94 = .ok (.getfield 21, 3) := by decide +kernel
theorem dX3_become_97 : decode cX3_become 97 = .ok (.iconst 0, 1) := by decide +kernel
theorem dX3_become_98 : decode cX3_become 98 = .ok (.aload_n 0, 1) := by decide +kernel
theorem dX3_become_99 : decode cX3_become 99 = .ok (.getfield 21, 3) := by decide +kernel
theorem dX3_become_102 : decode cX3_become 102 = .ok (.iconst 0, 1) := by decide +kernel
theorem dX3_become_103 : decode cX3_become 103 = .ok (.bipush 6, 2) := by decide +kernel
theorem dX3_become_105 : decode cX3_become 105 = .ok (.invokestatic 59, 3) := by decide +kernel
theorem dX3_become_108 : decode cX3_become 108 = .ok (.aload_n 1, 1) := by decide +kernel
theorem dX3_become_109 : decode cX3_become 109 = .ok (.getfield 24, 3) := by decide +kernel
theorem dX3_become_112 : decode cX3_become 112 = .ok (.iconst 0, 1) := by decide +kernel
theorem dX3_become_113 : decode cX3_become 113 = .ok (.aload_n 0, 1) := by decide +kernel
theorem dX3_become_114 : decode cX3_become 114 = .ok (.getfield 24, 3) := by decide +kernel
theorem dX3_become_117 : decode cX3_become 117 = .ok (.iconst 0, 1) := by decide +kernel
theorem dX3_become_118 : decode cX3_become 118 = .ok (.bipush 6, 2) := by decide +kernel
theorem dX3_become_120 : decode cX3_become 120 = .ok (.invokestatic 59, 3) := by decide +kernel
theorem dX3_become_123 : decode cX3_become 123 = .ok (.aload_n 1, 1) := by decide +kernel
theorem dX3_become_124 : decode cX3_become 124 = .ok (.getfield 27, 3) := by decide +kernel
theorem dX3_become_127 : decode cX3_become 127 = .ok (.iconst 0, 1) := by decide +kernel
theorem dX3_become_128 : decode cX3_become 128 = .ok (.aload_n 0, 1) := by decide +kernel
theorem dX3_become_129 : decode cX3_become 129 = .ok (.getfield 27, 3) := by decide +kernel
theorem dX3_become_132 : decode cX3_become 132 = .ok (.iconst 0, 1) := by decide +kernel
theorem dX3_become_133 : decode cX3_become 133 = .ok (.bipush 6, 2) := by decide +kernel
theorem dX3_become_135 : decode cX3_become 135 = .ok (.invokestatic 59, 3) := by decide +kernel
theorem dX3_become_138 : decode cX3_become 138 = .ok (.aload_n 1, 1) := by decide +kernel
theorem dX3_become_139 : decode cX3_become 139 = .ok (.getfield 30, 3) := by decide +kernel
theorem dX3_become_142 : decode cX3_become 142 = .ok (.iconst 0, 1) := by decide +kernel
theorem dX3_become_143 : decode cX3_become 143 = .ok (.aload_n 0, 1) := by decide +kernel
theorem dX3_become_144 : decode cX3_become 144 = .ok (.getfield 30, 3) := by decide +kernel
theorem dX3_become_147 : decode cX3_become 147 = .ok (.iconst 0, 1) := by decide +kernel
theorem dX3_become_148 : decode cX3_become 148 = .ok (.bipush 12, 2) := by decide +kernel
theorem dX3_become_150 : decode cX3_become 150 = .ok (.invokestatic 59, 3) := by decide +kernel
theorem dX3_become_153 : decode cX3_become 153 = .ok (.return_, 1) := by decide +kernel
theorem dX3_saveTo_0 : decode cX3_saveTo 0 = .ok (.iload_n 2, 1) := by decide +kernel
theorem dX3_saveTo_1 : decode cX3_saveTo 1 = .ok (.ifCond .lt 12, 3) := by decide +kernel
theorem dX3_saveTo_4 : decode cX3_saveTo 4 = .ok (.iload_n 2, 1) := by decide +kernel
theorem dX3_saveTo_5 : decode cX3_saveTo 5 = .ok (.aload_n 1, 1) := by decide +kernel
theorem dX3_saveTo_6 : decode cX3_saveTo 6 = .ok (.arraylength, 1) := by decide +kernel
theorem dX3_saveTo_7 : decode cX3_saveTo 7 = .ok (.bipush 40, 2) := by decide +kernel
theorem dX3_saveTo_9 : decode cX3_saveTo 9 = .ok (.isub, 1) := by decide +kernel
theorem dX3_saveTo_10 : decode cX3_saveTo 10 = .ok (.if_icmp .le 4, 3) := by decide +kernel
theorem dX3_saveTo_13 : decode cX3_saveTo 13 = .ok (.return_, 1) := by decide +kernel
theorem dX3_saveTo_14 : decode cX3_saveTo 14 = .ok (.aload_n 1, 1) := by decide +kernel
theorem dX3_saveTo_15 : decode cX3_saveTo 15 = .ok (.iload_n 2, 1) := by decide +kernel
theorem dX3_saveTo_16 : decode cX3_saveTo 16 = .ok (.aload_n 0, 1) := by decide +kernel
theorem dX3_saveTo_17 : decode cX3_saveTo 17 = .ok (.getfield 33, 3) := by decide +kernel
theorem dX3_saveTo_20 : decode cX3_saveTo 20 = .ok (.iastore, 1) := by decide +kernel
theorem dX3_saveTo_21 : decode cX3_saveTo 21 = .ok (.aload_n 1, 1) := by decide +kernel
theorem dX3_saveTo_22 : decode cX3_saveTo 22 = .ok (.iload_n 2, 1) := by decide +kernel
theorem dX3_saveTo_23 : decode cX3_saveTo 23 = .ok (.iconst 1, 1) := by decide +kernel
theorem dX3_saveTo_24 : decode cX3_saveTo 24 = .ok (.iadd, 1) := by decide +kernel
theorem dX3_saveTo_25 : decode cX3_saveTo 25 = .ok (.aload_n 0, 1) := by decide +kernel
theorem dX3_saveTo_26 : decode cX3_saveTo 26 = .ok (.getfield 37, 3) := by decide +kernel
theorem dX3_saveTo_29 : decode cX3_saveTo 29 = .ok (.iastore, 1) := by decide +kernel
theorem dX3_saveTo_30 : decode cX3_saveTo 30 = .ok (.aload_n 1, 1) := by decide +kernel
theorem dX3_saveTo_31 : decode cX3_saveTo 31 = .ok (.iload_n 2, 1) := by decide +kernel
theorem dX3_saveTo_32 : decode cX3_saveTo 32 = .ok (.iconst 2, 1) := by decide +kernel
theorem dX3_saveTo_33 : decode cX3_saveTo 33 = .ok (.iadd, 1) := by decide +kernel
theorem dX3_saveTo_34 : decode cX3_saveTo 34 = .ok (.aload_n 0, 1) := by decide +kernel
theorem dX3_saveTo_35 : decode cX3_saveTo 35 = .ok (.getfield 40, 3) := by decide +kernel
theorem dX3_saveTo_38 : decode cX3_saveTo 38 = .ok (.iastore, 1) := by decide +kernel
theorem dX3_saveTo_39 : decode cX3_saveTo 39 = .ok (.aload_n 1, 1) := by decide +kernel
theorem dX3_saveTo_40 : decode cX3_saveTo 40 = .ok (.iload_n 2, 1) := by decide +kernel
theorem dX3_saveTo_41 : decode cX3_saveTo 41 = .ok (.iconst 3, 1) := by decide +kernel
theorem dX3_saveTo_42 : decode cX3_saveTo 42 = .ok (.iadd, 1) := by decide +kernel
theorem dX3_saveTo_43 : decode cX3_saveTo 43 = .ok (.aload_n 0, 1) := by decide +kernel
theorem dX3_saveTo_44 : decode cX3_saveTo 44 = .ok (.getfield 46, 3) := by decide +kernel
theorem dX3_saveTo_47 : decode cX3_saveTo 47 = .ok (.iastore, 1) := by decide +kernel
theorem dX3_saveTo_48 : decode cX3_saveTo 48 = .ok (.iload_n 2, 1) := by decide +kernel
theorem dX3_saveTo_49 : decode cX3_saveTo 49 = .ok (.iconst 4, 1) := by decide +kernel
theorem dX3_saveTo_50 : decode cX3_saveTo 50 = .ok (.iadd, 1) := by decide +kernel
theorem dX3_saveTo_51 : decode cX3_saveTo 51 = .ok (.istore_n 3, 1) := by decide +kernel
theorem dX3_saveTo_52 : decode cX3_saveTo 52 = .ok (.aload_n 0, 1) := by decide +kernel
theorem dX3_saveTo_53 : decode cX3_saveTo 53 = .ok (.getfield 9, 3) := by decide +kernel
theorem dX3_saveTo_56 : decode cX3_saveTo 56 = .ok (.iconst 0, 1) := by decide +kernel
theorem dX3_saveTo_57 : decode cX3_saveTo 57 = .ok (.aload_n 1, 1) := by decide +kernel
theorem dX3_saveTo_58 : decode cX3_saveTo 58 = .ok (.iload_n 3, 1) := by decide +kernel
theorem dX3_saveTo_59 : decode cX3_saveTo 59 = .ok (.bipush 6, 2) := by decide +kernel
theorem dX3_saveTo_61 : decode cX3_saveTo 61 = .ok (.invokestatic 59, 3) := by decide +kernel
theorem dX3_saveTo_64 : decode cX3_saveTo 64 = .ok (.aload_n 0, 1) := by decide +kernel
theorem dX3_saveTo_65 : decode cX3_saveTo 65 = .ok (.getfield 15, 3) := by decide +kernel
theorem dX3_saveTo_68 : decode cX3_saveTo 68 = .ok (.iconst 0, 1) := by decide +kernel
theorem dX3_saveTo_69 : decode cX3_saveTo 69 = .ok (.aload_n 1, 1) := by decide +kernel
theorem dX3_saveTo_70 : decode cX3_saveTo 70 = .ok (.iload_n 3, 1) := by decide +kernel
theorem dX3_saveTo_71 : decode cX3_saveTo 71 = .ok (.bipush 6, 2) := by decide +kernel
theorem dX3_saveTo_73 : decode cX3_saveTo 73 = .ok (.iadd, 1) := by decide +kernel
theorem dX3_saveTo_74 : decode cX3_saveTo 74 = .ok (.bipush 6, 2) := by decide +kernel
theorem dX3_saveTo_76 : decode cX3_saveTo 76 = .ok (.invokestatic 59, 3) := by decide +kernel
theorem dX3_saveTo_79 : decode cX3_saveTo 79 = .ok (.aload_n 0, 1) := by decide +kernel
theorem dX3_saveTo_80 : decode cX3_saveTo 80 = .ok (.getfield 18, 3) := by decide +kernel
theorem dX3_saveTo_83 : decode cX3_saveTo 83 = .ok (.iconst 0, 1) := by decide +kernel
theorem dX3_saveTo_84 : decode cX3_saveTo 84 = .ok (.aload_n 1, 1) := by decide +kernel
theorem dX3_saveTo_85 : decode cX3_saveTo 85 = .ok (.iload_n 3, 1) := by decide +kernel
theorem dX3_saveTo_86 : decode cX3_saveTo 86 = .ok (.bipush 12, 2) := by decide +kernel
theorem dX3_saveTo_88 : decode cX3_saveTo 88 = .ok (.iadd, 1) := by decide +kernel
theorem dX3_saveTo_89 : decode cX3_saveTo 89 = .ok (.bipush 6, 2) := by decide +kernel
theorem dX3_saveTo_91 : decode cX3_saveTo 91 = .ok (.invokestatic 59, 3) := by decide +kernel
theorem dX3_saveTo_94 : decode cX3_saveTo 94 = .ok (.aload_n 0, 1) := by decide +kernel
theorem dX3_saveTo_95 : decode cX3_saveTo 95 = .ok (.getfield 21, 3) := by decide +kernel
theorem dX3_saveTo_98 : decode cX3_saveTo 98 = .ok (.iconst 0, 1) := by decide +kernel
theorem dX3_saveTo_99 : decode cX3_saveTo 99 = .ok (.aload_n 1, 1) := by decide +kernel
theorem dX3_saveTo_100 : decode cX3_saveTo 100 = .ok (.iload_n 3, 1) := by decide +kernel
theorem dX3_saveTo_101 : decode cX3_saveTo 101 = .ok (.bipush 18, 2) := by decide +kernel
theorem dX3_saveTo_103 : decode cX3_saveTo 103 = .ok (.iadd, 1) := by decide +kernel
theorem dX3_saveTo_104 : decode cX3_saveTo 104 = .ok (.bipush 6, 2) := by decide +kernel
theorem dX3_saveTo_106 : decode cX3_saveTo 106 = .ok (.invokestatic 59, 3) := by decide +kernel
theorem dX3_saveTo_109 : decode cX3_saveTo 109 = .ok (.aload_n 0, 1) := by decide +kernel
theorem dX3_saveTo_110 : decode cX3_saveTo 110 = .ok (.getfield 24, 3) := by decide +kernel
theorem dX3_saveTo_113 : decode cX3_saveTo 113 = .ok (.iconst 0, 1) := by decide +kernel
theorem dX3_saveTo_114 : decode cX3_saveTo 114 = .ok (.aload_n 1, 1) := by decide +kernel
theorem dX3_saveTo_115 : decode cX3_saveTo 115 = .ok (.iload_n 3, 1) := by decide +kernel
theorem dX3_saveTo_116 : decode cX3_saveTo 116 = .ok (.bipush 24, 2) := by decide +kernel
theorem dX3_saveTo_118 : decode cX3_saveTo 118 = .ok (.iadd, 1) := by decide +kernel
theorem dX3_saveTo_119 : decode cX3_saveTo 119 = .ok (.bipush 6, 2) := by decide +kernel
theorem dX3_saveTo_121 : decode cX3_saveTo 121 = .ok (.invokestatic 59, 3) := by decide +kernel
theorem dX3_saveTo_124 : decode cX3_saveTo 124 = .ok (.aload_n 0, 1) := by decide +kernel
theorem dX3_saveTo_125 : decode cX3_saveTo 125 = .ok (.getfield 27, 3) := by decide +kernel
theorem dX3_saveTo_128 : decode cX3_saveTo 128 = .ok (.iconst 0, 1) := by decide +kernel
theorem dX3_saveTo_129 : decode cX3_saveTo 129 = .ok (.aload_n 1, 1) := by decide +kernel
theorem dX3_saveTo_130 : decode cX3_saveTo 130 = .ok (.iload_n 3, 1) := by decide +kernel
theorem dX3_saveTo_131 : decode cX3_saveTo 131 = .ok (.bipush 30, 2) := by decide +kernel
theorem dX3_saveTo_133 : decode cX3_saveTo 133 = .ok (.iadd, 1) := by decide +kernel
theorem dX3_saveTo_134 : decode cX3_saveTo 134 = .ok (.bipush 6, 2) := by decide +kernel
theorem dX3_saveTo_136 : decode cX3_saveTo 136 = .ok (.invokestatic 59, 3) := by decide +kernel
theorem dX3_saveTo_139 : decode cX3_saveTo 139 = .ok (.return_, 1) := by decide +kernel
theorem dX3_loadFrom_0 : decode cX3_loadFrom 0 = .ok (.iload_n 2, 1) := by decide +kernel
theorem dX3_loadFrom_1 : decode cX3_loadFrom 1 = .ok (.ifCond .lt 12, 3) := by decide +kernel
theorem dX3_loadFrom_4 : decode cX3_loadFrom 4 = .ok (.iload_n 2, 1) := by decide +kernel
theorem dX3_loadFrom_5 : decode cX3_loadFrom 5 = .ok (.aload_n 1, 1) := by decide +kernel
theorem dX3_loadFrom_6 : decode cX3_loadFrom 6 = .ok (.arraylength, 1) := by decide +kernel
theorem dX3_loadFrom_7 : decode cX3_loadFrom 7 = .ok (.bipush 40, 2) := by decide +kernel
theorem dX3_loadFrom_9 : decode cX3_loadFrom 9 = .ok (.isub, 1) := by decide +kernel
theorem dX3_loadFrom_10 : decode cX3_loadFrom 10 = .ok (.if_icmp .le 4, 3) := by decide +kernel
theorem dX3_loadFrom_13 : decode cX3_loadFrom 13 = .ok (.return_, 1) := by decide +kernel
theorem dX3_loadFrom_14 : decode cX3_loadFrom 14 = .ok (.aload_n 0, 1) := by decide +kernel
theorem dX3_loadFrom_15 : decode cX3_loadFrom 15 = .ok (.aload_n 1, 1) := by decide +kernel
theorem dX3_loadFrom_16 : decode cX3_loadFrom 16 = .ok (.iload_n 2, 1) := by decide +kernel
theorem dX3_loadFrom_17 : decode cX3_loadFrom 17 = .ok (.iaload, 1) := by decide +kernel
theorem dX3_loadFrom_18 : decode cX3_loadFrom 18 = .ok (.putfield 33, 3) := by decide +kernel
theorem dX3_loadFrom_21 : decode cX3_loadFrom 21 = .ok (.aload_n 0, 1) := by decide +kernel
theorem dX3_loadFrom_22 : decode cX3_loadFrom 22 = .ok (.aload_n 1, 1) := by decide +kernel
theorem dX3_loadFrom_23 : decode cX3_loadFrom 23 = .ok (.iload_n 2, 1) := by decide +kernel
theorem dX3_loadFrom_24 : decode cX3_loadFrom 24 = .ok (.iconst 1, 1) := by decide +kernel
theorem dX3_loadFrom_25 : decode cX3_loadFrom 25 = .ok (.iadd, 1) := by decide +kernel
theorem dX3_loadFrom_26 : decode cX3_loadFrom 26 = .ok (.iaload, 1) := by decide +kernel
theorem dX3_loadFrom_27 : decode cX3_loadFrom 27 = .ok (.putfield 37, 3) := by decide +kernel
theorem dX3_loadFrom_30 : decode cX3_loadFrom 30 = .ok (.aload_n 0, 1) := by decide +kernel
theorem dX3_loadFrom_31 : decode cX3_loadFrom 31 = .ok (.aload_n 1, 1) := by decide +kernel
theorem dX3_loadFrom_32 : decode cX3_loadFrom 32 = .ok (.iload_n 2, 1) := by decide +kernel
theorem dX3_loadFrom_33 : decode cX3_loadFrom 33 = .ok (.iconst 2, 1) := by decide +kernel
theorem dX3_loadFrom_34 : decode cX3_loadFrom 34 = .ok (.iadd, 1) := by decide +kernel
theorem dX3_loadFrom_35 : decode cX3_loadFrom 35 = .ok (.iaload, 1) := by decide +kernel
theorem dX3_loadFrom_36 : decode cX3_loadFrom 36 = .ok (.putfield 40, 3) := by decide +kernel
theorem dX3_loadFrom_39 : decode cX3_loadFrom 39 = .ok (.aload_n 0, 1) := by decide +kernel
theorem dX3_loadFrom_40 : decode cX3_loadFrom 40 = .ok (.aload_n 1, 1) := by decide +kernel
theorem dX3_loadFrom_41 : decode cX3_loadFrom 41 = .ok (.iload_n 2, 1) := by decide +kernel
theorem dX3_loadFrom_42 : decode cX3_loadFrom 42 = .ok (.iconst 3, 1) := by decide +kernel
theorem dX3_loadFrom_43 : decode cX3_loadFrom 43 = .ok (.iadd, 1) := by decide +kernel
theorem dX3_loadFrom_44 : decode cX3_loadFrom 44 = .ok (.iaload, 1) := by decide +kernel
theorem dX3_loadFrom_45 : decode cX3_loadFrom 45 = .ok (.putfield 46, 3) := by decide +kernel
theorem dX3_loadFrom_48 : decode cX3_loadFrom 48 = .ok (.iload_n 2, 1) := by decide +kernel
theorem dX3_loadFrom_49 : decode cX3_loadFrom 49 = .ok (.iconst 4, 1) := by decide +kernel
theorem dX3_loadFrom_50 : decode cX3_loadFrom 50 = .ok (.iadd, 1) := by decide +kernel
theorem dX3_loadFrom_51 : decode cX3_loadFrom 51 = .ok (.istore_n 3, 1) := by decide +kernel
theorem dX3_loadFrom_52 : decode cX3_loadFrom 52 = .ok (.aload_n 1, 1) := by decide +kernel
theorem dX3_loadFrom_53 : decode cX3_loadFrom 53 = .ok (.iload_n 3, 1) := by decide +kernel
theorem dX3_loadFrom_54 : decode cX3_loadFrom 54 = .ok (.aload_n 0, 1) := by decide +kernel
theorem dX3_loadFrom_55 : decode cX3_loadFrom 55 = .ok (.getfield 9, 3) := by decide +kernel
theorem dX3_loadFrom_58 : decode cX3_loadFrom 58 = .ok (.iconst 0, 1) := by decide +kernel
theorem dX3_loadFrom_59 : decode cX3_loadFrom 59 = .ok (.bipush 6, 2) := by decide +kernel
theorem dX3_loadFrom_61 : decode cX3_loadFrom 61 = .ok (.invokestatic 59, 3) := by decide +kernel
theorem dX3_loadFrom_64 : decode cX3_loadFrom 64 = .ok (.aload_n 1, 1) := by decide +kernel
theorem dX3_loadFrom_65 : decode cX3_loadFrom 65 = .ok (.iload_n 3, 1) := by decide +kernel
theorem dX3_loadFrom_66 : decode cX3_loadFrom 66 = .ok (.bipush 6, 2) := by decide +kernel
theorem dX3_loadFrom_68 : decode cX3_loadFrom 68 = .ok (.iadd, 1) := by decide +kernel
theorem dX3_loadFrom_69 : decode cX3_loadFrom 69 = .ok (.aload_n 0, 1) := by decide +kernel
theorem dX3_loadFrom_70 : decode cX3_loadFrom 70 = .ok (.getfield 15, 3) := by decide +kernel
theorem dX3_loadFrom_73 : decode cX3_loadFrom 73 = .ok (.iconst 0, 1) := by decide +kernel
theorem dX3_loadFrom_74 : decode cX3_loadFrom 74 = .ok (.bipush 6, 2) := by decide +kernel
theorem dX3_loadFrom_76 : decode cX3_loadFrom 76 = .ok (.invokestatic 59, 3) := by decide +kernel
theorem dX3_loadFrom_79 : decode cX3_loadFrom 79 = .ok (.aload_n 1, 1) := by decide +kernel
theorem dX3_loadFrom_80 : decode cX3_loadFrom 80 = .ok (.iload_n 3, 1) := by decide +kernel
theorem dX3_loadFrom_81 : decode cX3_loadFrom 81 = .ok (.bipush 12, 2) := by decide +kernel
theorem dX3_loadFrom_83 : decode cX3_loadFrom 83 = .ok (.iadd, 1) := by decide +kernel
theorem dX3_loadFrom_84 : decode cX3_loadFrom 84 = .ok (.aload_n 0, 1) := by decide +kernel
theorem dX3_loadFrom_85 : decode cX3_loadFrom 85 = .ok (.getfield 18, 3) := by decide +kernel
theorem dX3_loadFrom_88 : decode cX3_loadFrom 88 = .ok (.iconst 0, 1) := by decide +kernel
theorem dX3_loadFrom_89 : decode cX3_loadFrom 89 = .ok (.bipush 6, 2) := by decide +kernel
theorem dX3_loadFrom_91 : decode cX3_loadFrom 91 = .ok (.invokestatic 59, 3) := by decide +kernel
theorem dX3_loadFrom_94 : decode cX3_loadFrom 94 = .ok (.aload_n 1, 1) := by decide +kernel
theorem dX3_loadFrom_95 : decode cX3_loadFrom 95 = .ok (.iload_n 3, 1) := by decide +kernel
theorem dX3_loadFrom_96 : decode cX3_loadFrom 96 = .ok (.bipush 18, 2) := by decide +kernel
theorem dX3_loadFrom_98 : decode cX3_loadFrom 98 = .ok (.iadd, 1) := by decide +kernel
theorem dX3_loadFrom_99 : decode cX3_loadFrom 99 = .ok (.aload_n 0, 1) := by decide +kernel
theorem dX3_loadFrom_100 : decode cX3_loadFrom 100 = .ok (.getfield 21, 3) := by decide +kernel
theorem dX3_loadFrom_103 : decode cX3_loadFrom 103 = .ok (.iconst 0, 1) := by decide +kernel
theorem dX3_loadFrom_104 : decode cX3_loadFrom 104 = .ok (.bipush 6, 2) := by decide +kernel
theorem dX3_loadFrom_106 : decode cX3_loadFrom 106 = .ok (.invokestatic 59, 3) := by decide +kernel
theorem dX3_loadFrom_109 : decode cX3_loadFrom 109 = .ok (.aload_n 1, 1) := by decide +kernel
theorem dX3_loadFrom_110 : decode cX3_loadFrom 110 = .ok (.iload_n 3, 1) := by decide +kernel
theorem dX3_loadFrom_111 : decode cX3_loadFrom 111 = .ok (.bipush 24, 2) := by decide +kernel
theorem dX3_loadFrom_113 : decode cX3_loadFrom 113 = .ok (.iadd, 1) := by decide +kernel
theorem dX3_loadFrom_114 : decode cX3_loadFrom 114 = .ok (.aload_n 0, 1) := by decide +kernel
theorem dX3_loadFrom_115 : decode cX3_loadFrom 115 = .ok (.getfield 24, 3) := by decide +kernel
theorem dX3_loadFrom_118 : decode cX3_loadFrom 118 = .ok (.iconst 0, 1) := by decide +kernel
theorem dX3_loadFrom_119 : decode cX3_loadFrom 119 = .ok (.bipush 6, 2) := by decide +kernel
theorem dX3_loadFrom_121 : decode cX3_loadFrom 121 = .ok (.invokestatic 59, 3) := by decide +kernel
theorem dX3_loadFrom_124 : decode cX3_loadFrom 124 = .ok (.aload_n 1, 1) := by decide +kernel
theorem dX3_loadFrom_125 : decode cX3_loadFrom 125 = .ok (.iload_n 3, 1) := by decide +kernel
theorem dX3_loadFrom_126 : decode cX3_loadFrom 126 = .ok (.bipush 30, 2) := by decide +kernel
theorem dX3_loadFrom_128 : decode cX3_loadFrom 128 = .ok (.iadd, 1) := by decide +kernel
theorem dX3_loadFrom_129 : decode cX3_loadFrom 129 = .ok (.aload_n 0, 1) := by decide +kernel
theorem dX3_loadFrom_130 : decode cX3_loadFrom 130 = .ok (.getfield 27, 3) := by decide +kernel
theorem dX3_loadFrom_133 : decode cX3_loadFrom 133 = .ok (.iconst 0, 1) := by decide +kernel
theorem dX3_loadFrom_134 : decode cX3_loadFrom 134 = .ok (.bipush 6, 2) := by decide +kernel
theorem dX3_loadFrom_136 : decode cX3_loadFrom 136 = .ok (.invokestatic 59, 3) := by decide +kernel
theorem dX3_loadFrom_139 : decode cX3_loadFrom 139 = .ok (.aload_n 0, 1) := by decide +kernel
theorem dX3_loadFrom_140 : decode cX3_loadFrom 140 = .ok (.invokevirtual 65, 3) := by decide +kernel
theorem dX3_loadFrom_143 : decode cX3_loadFrom 143 = .ok (.return_, 1) := by decide +kernel
theorem dX3_followSpots_0 : decode cX3_followSpots 0 = .ok (.aload_n 0, 1) := by decide +kernel
theorem dX3_followSpots_1 : decode cX3_followSpots 1 = .ok (.iconst 0, 1) := by decide +kernel
theorem dX3_followSpots_2 : decode cX3_followSpots 2 = .ok (.putfield 49, 3) := by decide +kernel
theorem dX3_followSpots_5 : decode cX3_followSpots 5 = .ok (.aload_n 0, 1) := by decide +kernel
theorem dX3_followSpots_6 : decode cX3_followSpots 6 = .ok (.getfield 30, 3) := by decide +kernel
theorem dX3_followSpots_9 : decode cX3_followSpots 9 = .ok (.ldc 52, 2) := by decide +kernel
theorem dX3_followSpots_11 : decode cX3_followSpots 11 = .ok (.invokestatic 53, 3) := by decide +kernel
theorem dX3_followSpots_14 : decode cX3_followSpots 14 = .ok (.iconst 0, 1) := by decide +kernel
theorem dX3_followSpots_15 : decode cX3_followSpots 15 = .ok (.istore_n 1, 1) := by decide +kernel
theorem dX3_followSpots_16 : decode cX3_followSpots 16 = .ok (.iload_n 1, 1) := by decide +kernel
theorem dX3_followSpots_17 : decode cX3_followSpots 17 = .ok (.aload_n 0, 1) := by decide +kernel
theorem dX3_followSpots_18 : decode cX3_followSpots 18 = .ok (.getfield 37, 3) := by decide +kernel
theorem dX3_followSpots_21 : decode cX3_followSpots 21 = .ok (.if_icmp .ge 50, 3) := by decide +kernel
theorem dX3_followSpots_24 : decode cX3_followSpots 24 = .ok (.aload_n 0, 1) := by decide +kernel
theorem dX3_followSpots_25 : decode cX3_followSpots 25 = .ok (.iload_n 1, 1) := by decide +kernel
theorem dX3_followSpots_26 : decode cX3_followSpots 26 = .ok (.invokevirtual 68, 3) := by decide +kernel
theorem dX3_followSpots_29 : decode cX3_followSpots 29 = .ok (.ifCond .eq 18, 3) := by decide +kernel
theorem dX3_followSpots_32 : decode cX3_followSpots 32 = .ok (.aload_n 0, 1) := by decide +kernel
theorem dX3_followSpots_33 : decode cX3_followSpots 33 = .ok (.getfield 30, 3) := by decide +kernel
theorem dX3_followSpots_36 : decode cX3_followSpots 36 = .ok (.aload_n 0, 1) := by decide +kernel
theorem dX3_followSpots_37 : decode cX3_followSpots 37 = .ok (.getfield 27, 3) := by decide +kernel
theorem dX3_followSpots_40 : decode cX3_followSpots 40 = .ok (.iload_n 1, 1) := by decide +kernel
theorem dX3_followSpots_41 : decode cX3_followSpots 41 = .ok (.iaload, 1) := by decide +kernel
theorem dX3_followSpots_42 : decode cX3_followSpots 42 = .ok (.iload_n 1, 1) := by decide +kernel
theorem dX3_followSpots_43 : decode cX3_followSpots 43 = .ok (.iastore, 1) := by decide +kernel
theorem dX3_followSpots_44 : decode cX3_followSpots 44 = .ok (.goto 21, 3) := by decide +kernel
theorem dX3_followSpots_47 : decode cX3_followSpots 47 = .ok (.aload_n 0, 1) := by decide +kernel
theorem dX3_followSpots_48 : decode cX3_followSpots 48 = .ok (.iload_n 1, 1) := by decide +kernel
theorem dX3_followSpots_49 : decode cX3_followSpots 49 = .ok (.invokevirtual 72, 3) := by decide +kernel
theorem dX3_followSpots_52 : decode cX3_followSpots 52 = .ok (.ifCond .eq 13, 3) := by decide +kernel
theorem dX3_followSpots_55 : decode cX3_followSpots 55 = .ok (.aload_n 0, 1) := by decide +kernel
theorem dX3_followSpots_56 : decode cX3_followSpots 56 = .ok (.dup, 1) := by decide +kernel
theorem dX3_followSpots_57 : decode cX3_followSpots 57 = .ok (.getfield 49, 3) := by decide +kernel
theorem dX3_followSpots_60 : decode cX3_followSpots 60 = .ok (.iconst 1, 1) := by decide +kernel
theorem dX3_followSpots_61 : decode cX3_followSpots 61 = .ok (.iadd, 1) := by decide +kernel
theorem dX3_followSpots_62 : decode cX3_followSpots 62 = .ok (.putfield 49, 3) := by decide +kernel
theorem dX3_followSpots_65 : decode cX3_followSpots 65 = .ok (.iinc 1 1, 3) := by decide +kernel
theorem dX3_followSpots_68 : decode cX3_followSpots 68 = .ok (.goto (-52), 3) := by decide +kernel
theorem dX3_followSpots_71 : decode cX3_followSpots 71 = .ok (.return_, 1) := by decide +kernel
theorem dX3_has_0 : decode cX3_has 0 = .ok (.iload_n 1, 1) := by decide +kernel
theorem dX3_has_1 : decode cX3_has 1 = .ok (.ifCond .lt 15, 3) := by decide +kernel
theorem dX3_has_4 : decode cX3_has 4 = .ok (.iload_n 1, 1) := by decide +kernel
theorem dX3_has_5 : decode cX3_has 5 = .ok (.aload_n 0, 1) := by decide +kernel
theorem dX3_has_6 : decode cX3_has 6 = .ok (.getfield 37, 3) := by decide +kernel
theorem dX3_has_9 : decode cX3_has 9 = .ok (.if_icmp .ge 7, 3) := by decide +kernel
theorem dX3_has_12 : decode cX3_has 12 = .ok (.iconst 1, 1) := by decide +kernel
theorem dX3_has_13 : decode cX3_has 13 = .ok (.goto 4, 3) := by decide +kernel
theorem dX3_has_16 : decode cX3_has 16 = .ok (.iconst 0, 1) := by decide +kernel
theorem dX3_has_17 : decode cX3_has 17 = .ok (.ireturn, 1) := by decide +kernel
theorem dX3_hasPlace_0 : decode cX3_hasPlace 0 = .ok (.iload_n 1, 1) := by decide +kernel
theorem dX3_hasPlace_1 : decode cX3_hasPlace 1 = .ok (.ifCond .lt 15, 3) := by decide +kernel
theorem dX3_hasPlace_4 : decode cX3_hasPlace 4 = .ok (.iload_n 1, 1) := by decide +kernel
theorem dX3_hasPlace_5 : decode cX3_hasPlace 5 = .ok (.aload_n 0, 1) := by decide +kernel
theorem dX3_hasPlace_6 : decode cX3_hasPlace 6 = .ok (.getfield 33, 3) := by decide +kernel
theorem dX3_hasPlace_9 : decode cX3_hasPlace 9 = .ok (.if_icmp .ge 7, 3) := by decide +kernel
theorem dX3_hasPlace_12 : decode cX3_hasPlace 12 = .ok (.iconst 1, 1) := by decide +kernel
theorem dX3_hasPlace_13 : decode cX3_hasPlace 13 = .ok (.goto 4, 3) := by decide +kernel
theorem dX3_hasPlace_16 : decode cX3_hasPlace 16 = .ok (.iconst 0, 1) := by decide +kernel
theorem dX3_hasPlace_17 : decode cX3_hasPlace 17 = .ok (.ireturn, 1) := by decide +kernel
theorem dX3_waits_0 : decode cX3_waits 0 = .ok (.aload_n 0, 1) := by decide +kernel
theorem dX3_waits_1 : decode cX3_waits 1 = .ok (.getfield 21, 3) := by decide +kernel
theorem dX3_waits_4 : decode cX3_waits 4 = .ok (.iload_n 1, 1) := by decide +kernel
theorem dX3_waits_5 : decode cX3_waits 5 = .ok (.iaload, 1) := by decide +kernel
theorem dX3_waits_6 : decode cX3_waits 6 = .ok (.ldc 52, 2) := by decide +kernel
theorem dX3_waits_8 : decode cX3_waits 8 = .ok (.if_icmp .ne 7, 3) := by decide +kernel
theorem dX3_waits_11 : decode cX3_waits 11 = .ok (.iconst 1, 1) := by decide +kernel
theorem dX3_waits_12 : decode cX3_waits 12 = .ok (.goto 4, 3) := by decide +kernel
theorem dX3_waits_15 : decode cX3_waits 15 = .ok (.iconst 0, 1) := by decide +kernel
theorem dX3_waits_16 : decode cX3_waits 16 = .ok (.ireturn, 1) := by decide +kernel
theorem dX3_hasOwn_0 : decode cX3_hasOwn 0 = .ok (.aload_n 0, 1) := by decide +kernel
theorem dX3_hasOwn_1 : decode cX3_hasOwn 1 = .ok (.getfield 21, 3) := by decide +kernel
theorem dX3_hasOwn_4 : decode cX3_hasOwn 4 = .ok (.iload_n 1, 1) := by decide +kernel
theorem dX3_hasOwn_5 : decode cX3_hasOwn 5 = .ok (.iaload, 1) := by decide +kernel
theorem dX3_hasOwn_6 : decode cX3_hasOwn 6 = .ok (.iload_n 1, 1) := by decide +kernel
theorem dX3_hasOwn_7 : decode cX3_hasOwn 7 = .ok (.if_icmp .ne 7, 3) := by decide +kernel
theorem dX3_hasOwn_10 : decode cX3_hasOwn 10 = .ok (.iconst 1, 1) := by decide +kernel
theorem dX3_hasOwn_11 : decode cX3_hasOwn 11 = .ok (.goto 4, 3) := by decide +kernel
theorem dX3_hasOwn_14 : decode cX3_hasOwn 14 = .ok (.iconst 0, 1) := by decide +kernel
theorem dX3_hasOwn_15 : decode cX3_hasOwn 15 = .ok (.ireturn, 1) := by decide +kernel
theorem dX3_isWrong_0 : decode cX3_isWrong 0 = .ok (.aload_n 0, 1) := by decide +kernel
theorem dX3_isWrong_1 : decode cX3_isWrong 1 = .ok (.iload_n 1, 1) := by decide +kernel
theorem dX3_isWrong_2 : decode cX3_isWrong 2 = .ok (.invokevirtual 75, 3) := by decide +kernel
theorem dX3_isWrong_5 : decode cX3_isWrong 5 = .ok (.ifCond .ne 15, 3) := by decide +kernel
theorem dX3_isWrong_8 : decode cX3_isWrong 8 = .ok (.aload_n 0, 1) := by decide +kernel
theorem dX3_isWrong_9 : decode cX3_isWrong 9 = .ok (.iload_n 1, 1) := by decide +kernel
theorem dX3_isWrong_10 : decode cX3_isWrong 10 = .ok (.invokevirtual 78, 3) := by decide +kernel
theorem dX3_isWrong_13 : decode cX3_isWrong 13 = .ok (.ifCond .ne 7, 3) := by decide +kernel
theorem dX3_isWrong_16 : decode cX3_isWrong 16 = .ok (.iconst 1, 1) := by decide +kernel
theorem dX3_isWrong_17 : decode cX3_isWrong 17 = .ok (.goto 4, 3) := by decide +kernel
theorem dX3_isWrong_20 : decode cX3_isWrong 20 = .ok (.iconst 0, 1) := by decide +kernel
theorem dX3_isWrong_21 : decode cX3_isWrong 21 = .ok (.ireturn, 1) := by decide +kernel
theorem dX3_isRobbed_0 : decode cX3_isRobbed 0 = .ok (.aload_n 0, 1) := by decide +kernel
theorem dX3_isRobbed_1 : decode cX3_isRobbed 1 = .ok (.iload_n 1, 1) := by decide +kernel
theorem dX3_isRobbed_2 : decode cX3_isRobbed 2 = .ok (.invokevirtual 75, 3) := by decide +kernel
theorem dX3_isRobbed_5 : decode cX3_isRobbed 5 = .ok (.ifCond .eq 15, 3) := by decide +kernel
theorem dX3_isRobbed_8 : decode cX3_isRobbed 8 = .ok (.aload_n 0, 1) := by decide +kernel
theorem dX3_isRobbed_9 : decode cX3_isRobbed 9 = .ok (.iload_n 1, 1) := by decide +kernel
theorem dX3_isRobbed_10 : decode cX3_isRobbed 10 = .ok (.invokevirtual 81, 3) := by decide +kernel
theorem dX3_isRobbed_13 : decode cX3_isRobbed 13 = .ok (.ifCond .eq 7, 3) := by decide +kernel
theorem dX3_isRobbed_16 : decode cX3_isRobbed 16 = .ok (.iconst 1, 1) := by decide +kernel
theorem dX3_isRobbed_17 : decode cX3_isRobbed 17 = .ok (.goto 4, 3) := by decide +kernel
theorem dX3_isRobbed_20 : decode cX3_isRobbed 20 = .ok (.iconst 0, 1) := by decide +kernel
theorem dX3_isRobbed_21 : decode cX3_isRobbed 21 = .ok (.ireturn, 1) := by decide +kernel
theorem dX3_isTaken_0 : decode cX3_isTaken 0 = .ok (.aload_n 0, 1) := by decide +kernel
theorem dX3_isTaken_1 : decode cX3_isTaken 1 = .ok (.getfield 27, 3) := by decide +kernel
theorem dX3_isTaken_4 : decode cX3_isTaken 4 = .ok (.iload_n 1, 1) := by decide +kernel
theorem dX3_isTaken_5 : decode cX3_isTaken 5 = .ok (.iaload, 1) := by decide +kernel
theorem dX3_isTaken_6 : decode cX3_isTaken 6 = .ok (.bipush 30, 2) := by decide +kernel
theorem dX3_isTaken_8 : decode cX3_isTaken 8 = .ok (.if_icmp .lt 7, 3) := by decide +kernel
theorem dX3_isTaken_11 : decode cX3_isTaken 11 = .ok (.iconst 1, 1) := by decide +kernel
theorem dX3_isTaken_12 : decode cX3_isTaken 12 = .ok (.goto 4, 3) := by decide +kernel
theorem dX3_isTaken_15 : decode cX3_isTaken 15 = .ok (.iconst 0, 1) := by decide +kernel
theorem dX3_isTaken_16 : decode cX3_isTaken 16 = .ok (.ireturn, 1) := by decide +kernel
theorem dX3_isInCart_0 : decode cX3_isInCart 0 = .ok (.aload_n 0, 1) := by decide +kernel
theorem dX3_isInCart_1 : decode cX3_isInCart 1 = .ok (.getfield 27, 3) := by decide +kernel
theorem dX3_isInCart_4 : decode cX3_isInCart 4 = .ok (.iload_n 1, 1) := by decide +kernel
theorem dX3_isInCart_5 : decode cX3_isInCart 5 = .ok (.iaload, 1) := by decide +kernel
theorem dX3_isInCart_6 : decode cX3_isInCart 6 = .ok (.bipush 20, 2) := by decide +kernel
theorem dX3_isInCart_8 : decode cX3_isInCart 8 = .ok (.if_icmp .ne 7, 3) := by decide +kernel
theorem dX3_isInCart_11 : decode cX3_isInCart 11 = .ok (.iconst 1, 1) := by decide +kernel
theorem dX3_isInCart_12 : decode cX3_isInCart 12 = .ok (.goto 4, 3) := by decide +kernel
theorem dX3_isInCart_15 : decode cX3_isInCart 15 = .ok (.iconst 0, 1) := by decide +kernel
theorem dX3_isInCart_16 : decode cX3_isInCart 16 = .ok (.ireturn, 1) := by decide +kernel
theorem dX3_isOnBelt_0 : decode cX3_isOnBelt 0 = .ok (.aload_n 0, 1) := by decide +kernel
theorem dX3_isOnBelt_1 : decode cX3_isOnBelt 1 = .ok (.getfield 27, 3) := by decide +kernel
theorem dX3_isOnBelt_4 : decode cX3_isOnBelt 4 = .ok (.iload_n 1, 1) := by decide +kernel
theorem dX3_isOnBelt_5 : decode cX3_isOnBelt 5 = .ok (.iaload, 1) := by decide +kernel
theorem dX3_isOnBelt_6 : decode cX3_isOnBelt 6 = .ok (.ifCond .lt 18, 3) := by decide +kernel
theorem dX3_isOnBelt_9 : decode cX3_isOnBelt 9 = .ok (.aload_n 0, 1) := by decide +kernel
theorem dX3_isOnBelt_10 : decode cX3_isOnBelt 10 = .ok (.getfield 27, 3) := by decide +kernel
theorem dX3_isOnBelt_13 : decode cX3_isOnBelt 13 = .ok (.iload_n 1, 1) := by decide +kernel
theorem dX3_isOnBelt_14 : decode cX3_isOnBelt 14 = .ok (.iaload, 1) := by decide +kernel
theorem dX3_isOnBelt_15 : decode cX3_isOnBelt 15 = .ok (.bipush 12, 2) := by decide +kernel
theorem dX3_isOnBelt_17 : decode cX3_isOnBelt 17 = .ok (.if_icmp .ge 7, 3) := by decide +kernel
theorem dX3_isOnBelt_20 : decode cX3_isOnBelt 20 = .ok (.iconst 1, 1) := by decide +kernel
theorem dX3_isOnBelt_21 : decode cX3_isOnBelt 21 = .ok (.goto 4, 3) := by decide +kernel
theorem dX3_isOnBelt_24 : decode cX3_isOnBelt 24 = .ok (.iconst 0, 1) := by decide +kernel
theorem dX3_isOnBelt_25 : decode cX3_isOnBelt 25 = .ok (.ireturn, 1) := by decide +kernel
theorem dX3_whereIs_0 : decode cX3_whereIs 0 = .ok (.aload_n 0, 1) := by decide +kernel
theorem dX3_whereIs_1 : decode cX3_whereIs 1 = .ok (.iload_n 1, 1) := by decide +kernel
theorem dX3_whereIs_2 : decode cX3_whereIs 2 = .ok (.invokevirtual 68, 3) := by decide +kernel
theorem dX3_whereIs_5 : decode cX3_whereIs 5 = .ok (.ifCond .ne 10, 3) := by decide +kernel
theorem dX3_whereIs_8 : decode cX3_whereIs 8 = .ok (.aload_n 0, 1) := by decide +kernel
theorem dX3_whereIs_9 : decode cX3_whereIs 9 = .ok (.getfield 27, 3) := by decide +kernel
theorem dX3_whereIs_12 : decode cX3_whereIs 12 = .ok (.iload_n 1, 1) := by decide +kernel
theorem dX3_whereIs_13 : decode cX3_whereIs 13 = .ok (.iaload, 1) := by decide +kernel
theorem dX3_whereIs_14 : decode cX3_whereIs 14 = .ok (.ireturn, 1) := by decide +kernel
theorem dX3_whereIs_15 : decode cX3_whereIs 15 = .ok (.aload_n 0, 1) := by decide +kernel
theorem dX3_whereIs_16 : decode cX3_whereIs 16 = .ok (.getfield 27, 3) := by decide +kernel
theorem dX3_whereIs_19 : decode cX3_whereIs 19 = .ok (.iload_n 1, 1) := by decide +kernel
theorem dX3_whereIs_20 : decode cX3_whereIs 20 = .ok (.iaload, 1) := by decide +kernel
theorem dX3_whereIs_21 : decode cX3_whereIs 21 = .ok (.aload_n 0, 1) := by decide +kernel
theorem dX3_whereIs_22 : decode cX3_whereIs 22 = .ok (.getfield 46, 3) := by decide +kernel
theorem dX3_whereIs_25 : decode cX3_whereIs 25 = .ok (.iadd, 1) := by decide +kernel
theorem dX3_whereIs_26 : decode cX3_whereIs 26 = .ok (.istore_n 2, 1) := by decide +kernel
theorem dX3_whereIs_27 : decode cX3_whereIs 27 = .ok (.iload_n 2, 1) := by decide +kernel
theorem dX3_whereIs_28 : decode cX3_whereIs 28 = .ok (.aload_n 0, 1) := by decide +kernel
theorem dX3_whereIs_29 : decode cX3_whereIs 29 = .ok (.getfield 33, 3) := by decide +kernel
theorem dX3_whereIs_32 : decode cX3_whereIs 32 = .ok (.if_icmp .ge 7, 3) := by decide +kernel
theorem dX3_whereIs_35 : decode cX3_whereIs 35 = .ok (.iload_n 2, 1) := by decide +kernel
theorem dX3_whereIs_36 : decode cX3_whereIs 36 = .ok (.goto 9, 3) := by decide +kernel
theorem dX3_whereIs_39 : decode cX3_whereIs 39 = .ok (.iload_n 2, 1) := by decide +kernel
theorem dX3_whereIs_40 : decode cX3_whereIs 40 = .ok (.aload_n 0, 1) := by decide +kernel
theorem dX3_whereIs_41 : decode cX3_whereIs 41 = .ok (.getfield 33, 3) := by decide +kernel
theorem dX3_whereIs_44 : decode cX3_whereIs 44 = .ok (.isub, 1) := by decide +kernel
theorem dX3_whereIs_45 : decode cX3_whereIs 45 = .ok (.ireturn, 1) := by decide +kernel
theorem dX3_bagAt_0 : decode cX3_bagAt 0 = .ok (.iload_n 1, 1) := by decide +kernel
theorem dX3_bagAt_1 : decode cX3_bagAt 1 = .ok (.aload_n 0, 1) := by decide +kernel
theorem dX3_bagAt_2 : decode cX3_bagAt 2 = .ok (.getfield 46, 3) := by decide +kernel
theorem dX3_bagAt_5 : decode cX3_bagAt 5 = .ok (.if_icmp .ge 17, 3) := by decide +kernel
theorem dX3_bagAt_8 : decode cX3_bagAt 8 = .ok (.iload_n 1, 1) := by decide +kernel
theorem dX3_bagAt_9 : decode cX3_bagAt 9 = .ok (.aload_n 0, 1) := by decide +kernel
theorem dX3_bagAt_10 : decode cX3_bagAt 10 = .ok (.getfield 46, 3) := by decide +kernel
theorem dX3_bagAt_13 : decode cX3_bagAt 13 = .ok (.isub, 1) := by decide +kernel
theorem dX3_bagAt_14 : decode cX3_bagAt 14 = .ok (.aload_n 0, 1) := by decide +kernel
theorem dX3_bagAt_15 : decode cX3_bagAt 15 = .ok (.getfield 33, 3) := by decide +kernel
theorem dX3_bagAt_18 : decode cX3_bagAt 18 = .ok (.iadd, 1) := by decide +kernel
theorem dX3_bagAt_19 : decode cX3_bagAt 19 = .ok (.goto 9, 3) := by decide +kernel
theorem dX3_bagAt_22 : decode cX3_bagAt 22 = .ok (.iload_n 1, 1) := by decide +kernel
theorem dX3_bagAt_23 : decode cX3_bagAt 23 = .ok (.aload_n 0, 1) := by decide +kernel
theorem dX3_bagAt_24 : decode cX3_bagAt 24 = .ok (.getfield 46, 3) := by decide +kernel
theorem dX3_bagAt_27 : decode cX3_bagAt 27 = .ok (.isub, 1) := by decide +kernel
theorem dX3_bagAt_28 : decode cX3_bagAt 28 = .ok (.istore_n 2, 1) := by decide +kernel
theorem dX3_bagAt_29 : decode cX3_bagAt 29 = .ok (.iload_n 2, 1) := by decide +kernel
theorem dX3_bagAt_30 : decode cX3_bagAt 30 = .ok (.ifCond .lt 18, 3) := by decide +kernel
theorem dX3_bagAt_33 : decode cX3_bagAt 33 = .ok (.iload_n 2, 1) := by decide +kernel
theorem dX3_bagAt_34 : decode cX3_bagAt 34 = .ok (.bipush 12, 2) := by decide +kernel
theorem dX3_bagAt_36 : decode cX3_bagAt 36 = .ok (.if_icmp .ge 12, 3) := by decide +kernel
theorem dX3_bagAt_39 : decode cX3_bagAt 39 = .ok (.aload_n 0, 1) := by decide +kernel
theorem dX3_bagAt_40 : decode cX3_bagAt 40 = .ok (.getfield 30, 3) := by decide +kernel
theorem dX3_bagAt_43 : decode cX3_bagAt 43 = .ok (.iload_n 2, 1) := by decide +kernel
theorem dX3_bagAt_44 : decode cX3_bagAt 44 = .ok (.iaload, 1) := by decide +kernel
theorem dX3_bagAt_45 : decode cX3_bagAt 45 = .ok (.goto 5, 3) := by decide +kernel
theorem dX3_bagAt_48 : decode cX3_bagAt 48 = .ok (.ldc 52, 2) := by decide +kernel
theorem dX3_bagAt_50 : decode cX3_bagAt 50 = .ok (.ireturn, 1) := by decide +kernel
theorem dX3_setOf_0 : decode cX3_setOf 0 = .ok (.iconst 0, 1) := by decide +kernel
theorem dX3_setOf_1 : decode cX3_setOf 1 = .ok (.istore_n 2, 1) := by decide +kernel
theorem dX3_setOf_2 : decode cX3_setOf 2 = .ok (.iconst 0, 1) := by decide +kernel
theorem dX3_setOf_3 : decode cX3_setOf 3 = .ok (.istore_n 3, 1) := by decide +kernel
theorem dX3_setOf_4 : decode cX3_setOf 4 = .ok (.iload_n 3, 1) := by decide +kernel
theorem dX3_setOf_5 : decode cX3_setOf 5 = .ok (.aload_n 0, 1) := by decide +kernel
theorem dX3_setOf_6 : decode cX3_setOf 6 = .ok (.getfield 37, 3) := by decide +kernel
theorem dX3_setOf_9 : decode cX3_setOf 9 = .ok (.if_icmp .ge 28, 3) := by decide +kernel
theorem dX3_setOf_12 : decode cX3_setOf 12 = .ok (.iload_n 2, 1) := by decide +kernel
theorem dX3_setOf_13 : decode cX3_setOf 13 = .ok (.aload_n 0, 1) := by decide +kernel
theorem dX3_setOf_14 : decode cX3_setOf 14 = .ok (.iload_n 1, 1) := by decide +kernel
theorem dX3_setOf_15 : decode cX3_setOf 15 = .ok (.iload_n 3, 1) := by decide +kernel
theorem dX3_setOf_16 : decode cX3_setOf 16 = .ok (.invokevirtual 84, 3) := by decide +kernel
theorem dX3_setOf_19 : decode cX3_setOf 19 = .ok (.ifCond .eq 9, 3) := by decide +kernel
theorem dX3_setOf_22 : decode cX3_setOf 22 = .ok (.iconst 1, 1) := by decide +kernel
theorem dX3_setOf_23 : decode cX3_setOf 23 = .ok (.iload_n 3, 1) := by decide +kernel
theorem dX3_setOf_24 : decode cX3_setOf 24 = .ok (.ishl, 1) := by decide +kernel
theorem dX3_setOf_25 : decode cX3_setOf 25 = .ok (.goto 4, 3) := by decide +kernel
theorem dX3_setOf_28 : decode cX3_setOf 28 = .ok (.iconst 0, 1) := by decide +kernel
theorem dX3_setOf_29 : decode cX3_setOf 29 = .ok (.ior, 1) := by decide +kernel
theorem dX3_setOf_30 : decode cX3_setOf 30 = .ok (.istore_n 2, 1) := by decide +kernel
theorem dX3_setOf_31 : decode cX3_setOf 31 = .ok (.iinc 3 1, 3) := by decide +kernel
theorem dX3_setOf_34 : decode cX3_setOf 34 = .ok (.goto (-30), 3) := by decide +kernel
theorem dX3_setOf_37 : decode cX3_setOf 37 = .ok (.iload_n 2, 1) := by decide +kernel
theorem dX3_setOf_38 : decode cX3_setOf 38 = .ok (.ireturn, 1) := by decide +kernel
theorem dX3_isIn_0 : decode cX3_isIn 0 = .ok (.iload_n 1, 1) := by decide +kernel
theorem dX3_isIn_1 : decode cX3_isIn 1 = .ok (.tableswitch 93 1 7 #[43, 49, 55, 61, 67, 73, 79], 43) := by decide +kernel
theorem dX3_isIn_44 : decode cX3_isIn 44 = .ok (.aload_n 0, 1) := by decide +kernel
theorem dX3_isIn_45 : decode cX3_isIn 45 = .ok (.iload_n 2, 1) := by decide +kernel
theorem dX3_isIn_46 : decode cX3_isIn 46 = .ok (.invokevirtual 72, 3) := by decide +kernel
theorem dX3_isIn_49 : decode cX3_isIn 49 = .ok (.ireturn, 1) := by decide +kernel
theorem dX3_isIn_50 : decode cX3_isIn 50 = .ok (.aload_n 0, 1) := by decide +kernel
theorem dX3_isIn_51 : decode cX3_isIn 51 = .ok (.iload_n 2, 1) := by decide +kernel
theorem dX3_isIn_52 : decode cX3_isIn 52 = .ok (.invokevirtual 68, 3) := by decide +kernel
theorem dX3_isIn_55 : decode cX3_isIn 55 = .ok (.ireturn, 1) := by decide +kernel
theorem dX3_isIn_56 : decode cX3_isIn 56 = .ok (.aload_n 0, 1) := by decide +kernel
theorem dX3_isIn_57 : decode cX3_isIn 57 = .ok (.iload_n 2, 1) := by decide +kernel
theorem dX3_isIn_58 : decode cX3_isIn 58 = .ok (.invokevirtual 81, 3) := by decide +kernel
theorem dX3_isIn_61 : decode cX3_isIn 61 = .ok (.ireturn, 1) := by decide +kernel
theorem dX3_isIn_62 : decode cX3_isIn 62 = .ok (.aload_n 0, 1) := by decide +kernel
theorem dX3_isIn_63 : decode cX3_isIn 63 = .ok (.iload_n 2, 1) := by decide +kernel
theorem dX3_isIn_64 : decode cX3_isIn 64 = .ok (.invokevirtual 75, 3) := by decide +kernel
theorem dX3_isIn_67 : decode cX3_isIn 67 = .ok (.ireturn, 1) := by decide +kernel
theorem dX3_isIn_68 : decode cX3_isIn 68 = .ok (.aload_n 0, 1) := by decide +kernel
theorem dX3_isIn_69 : decode cX3_isIn 69 = .ok (.iload_n 2, 1) := by decide +kernel
theorem dX3_isIn_70 : decode cX3_isIn 70 = .ok (.invokevirtual 88, 3) := by decide +kernel
theorem dX3_isIn_73 : decode cX3_isIn 73 = .ok (.ireturn, 1) := by decide +kernel
theorem dX3_isIn_74 : decode cX3_isIn 74 = .ok (.aload_n 0, 1) := by decide +kernel
theorem dX3_isIn_75 : decode cX3_isIn 75 = .ok (.iload_n 2, 1) := by decide +kernel
theorem dX3_isIn_76 : decode cX3_isIn 76 = .ok (.invokevirtual 91, 3) := by decide +kernel
theorem dX3_isIn_79 : decode cX3_isIn 79 = .ok (.ireturn, 1) := by decide +kernel
theorem dX3_isIn_80 : decode cX3_isIn 80 = .ok (.aload_n 0, 1) := by decide +kernel
theorem dX3_isIn_81 : decode cX3_isIn 81 = .ok (.iload_n 2, 1) := by decide +kernel
theorem dX3_isIn_82 : decode cX3_isIn 82 = .ok (.invokevirtual 75, 3) := by decide +kernel
theorem dX3_isIn_85 : decode cX3_isIn 85 = .ok (.ifCond .ne 7, 3) := by decide +kernel
theorem dX3_isIn_88 : decode cX3_isIn 88 = .ok (.iconst 1, 1) := by decide +kernel
theorem dX3_isIn_89 : decode cX3_isIn 89 = .ok (.goto 4, 3) := by decide +kernel
theorem dX3_isIn_92 : decode cX3_isIn 92 = .ok (.iconst 0, 1) := by decide +kernel
theorem dX3_isIn_93 : decode cX3_isIn 93 = .ok (.ireturn, 1) := by decide +kernel
theorem dX3_isIn_94 : decode cX3_isIn 94 = .ok (.iconst 0, 1) := by decide +kernel
theorem dX3_isIn_95 : decode cX3_isIn 95 = .ok (.ireturn, 1) := by decide +kernel
theorem dX3_seenTogether_0 : decode cX3_seenTogether 0 = .ok (.iconst 0, 1) := by decide +kernel
theorem dX3_seenTogether_1 : decode cX3_seenTogether 1 = .ok (.istore_n 1, 1) := by decide +kernel
theorem dX3_seenTogether_2 : decode cX3_seenTogether 2 = .ok (.iconst 0, 1) := by decide +kernel
theorem dX3_seenTogether_3 : decode cX3_seenTogether 3 = .ok (.istore_n 2, 1) := by decide +kernel
theorem dX3_seenTogether_4 : decode cX3_seenTogether 4 = .ok (.iload_n 2, 1) := by decide +kernel
theorem dX3_seenTogether_5 : decode cX3_seenTogether 5 = .ok (.aload_n 0, 1) := by decide +kernel
theorem dX3_seenTogether_6 : decode cX3_seenTogether 6 = .ok (.getfield 37, 3) := by decide +kernel
theorem dX3_seenTogether_9 : decode cX3_seenTogether 9 = .ok (.if_icmp .ge 18, 3) := by decide +kernel
theorem dX3_seenTogether_12 : decode cX3_seenTogether 12 = .ok (.iload_n 1, 1) := by decide +kernel
theorem dX3_seenTogether_13 : decode cX3_seenTogether 13 = .ok (.aload_n 0, 1) := by decide +kernel
theorem dX3_seenTogether_14 : decode cX3_seenTogether 14 = .ok (.getfield 18, 3) := by decide +kernel
theorem dX3_seenTogether_17 : decode cX3_seenTogether 17 = .ok (.iload_n 2, 1) := by decide +kernel
theorem dX3_seenTogether_18 : decode cX3_seenTogether 18 = .ok (.iaload, 1) := by decide +kernel
theorem dX3_seenTogether_19 : decode cX3_seenTogether 19 = .ok (.iadd, 1) := by decide +kernel
theorem dX3_seenTogether_20 : decode cX3_seenTogether 20 = .ok (.istore_n 1, 1) := by decide +kernel
theorem dX3_seenTogether_21 : decode cX3_seenTogether 21 = .ok (.iinc 2 1, 3) := by decide +kernel
theorem dX3_seenTogether_24 : decode cX3_seenTogether 24 = .ok (.goto (-20), 3) := by decide +kernel
theorem dX3_seenTogether_27 : decode cX3_seenTogether 27 = .ok (.iload_n 1, 1) := by decide +kernel
theorem dX3_seenTogether_28 : decode cX3_seenTogether 28 = .ok (.ireturn, 1) := by decide +kernel
theorem dX3_shareOf_0 : decode cX3_shareOf 0 = .ok (.aload_n 0, 1) := by decide +kernel
theorem dX3_shareOf_1 : decode cX3_shareOf 1 = .ok (.invokevirtual 94, 3) := by decide +kernel
theorem dX3_shareOf_4 : decode cX3_shareOf 4 = .ok (.istore_n 3, 1) := by decide +kernel
theorem dX3_shareOf_5 : decode cX3_shareOf 5 = .ok (.iload_n 3, 1) := by decide +kernel
theorem dX3_shareOf_6 : decode cX3_shareOf 6 = .ok (.ifCond .eq 12, 3) := by decide +kernel
theorem dX3_shareOf_9 : decode cX3_shareOf 9 = .ok (.aload_n 0, 1) := by decide +kernel
theorem dX3_shareOf_10 : decode cX3_shareOf 10 = .ok (.getfield 18, 3) := by decide +kernel
theorem dX3_shareOf_13 : decode cX3_shareOf 13 = .ok (.iload_n 1, 1) := by decide +kernel
theorem dX3_shareOf_14 : decode cX3_shareOf 14 = .ok (.iaload, 1) := by decide +kernel
theorem dX3_shareOf_15 : decode cX3_shareOf 15 = .ok (.ifCond .ne 5, 3) := by decide +kernel
theorem dX3_shareOf_18 : decode cX3_shareOf 18 = .ok (.iconst 0, 1) := by decide +kernel
theorem dX3_shareOf_19 : decode cX3_shareOf 19 = .ok (.ireturn, 1) := by decide +kernel
theorem dX3_shareOf_20 : decode cX3_shareOf 20 = .ok (.iload_n 2, 1) := by decide +kernel
theorem dX3_shareOf_21 : decode cX3_shareOf 21 = .ok (.istore 4, 2) := by decide +kernel
theorem dX3_shareOf_23 : decode cX3_shareOf 23 = .ok (.iconst 0, 1) := by decide +kernel
theorem dX3_shareOf_24 : decode cX3_shareOf 24 = .ok (.istore 5, 2) := by decide +kernel
theorem dX3_shareOf_26 : decode cX3_shareOf 26 = .ok (.iconst 0, 1) := by decide +kernel
theorem dX3_shareOf_27 : decode cX3_shareOf 27 = .ok (.istore 6, 2) := by decide +kernel
theorem dX3_shareOf_29 : decode cX3_shareOf 29 = .ok (.iload 6, 2) := by decide +kernel
theorem dX3_shareOf_31 : decode cX3_shareOf 31 = .ok (.aload_n 0, 1) := by decide +kernel
theorem dX3_shareOf_32 : decode cX3_shareOf 32 = .ok (.getfield 37, 3) := by decide +kernel
theorem dX3_shareOf_35 : decode cX3_shareOf 35 = .ok (.if_icmp .ge 51, 3) := by decide +kernel
theorem dX3_shareOf_38 : decode cX3_shareOf 38 = .ok (.iload 4, 2) := by decide +kernel
theorem dX3_shareOf_40 : decode cX3_shareOf 40 = .ok (.iload_n 2, 1) := by decide +kernel
theorem dX3_shareOf_41 : decode cX3_shareOf 41 = .ok (.aload_n 0, 1) := by decide +kernel
theorem dX3_shareOf_42 : decode cX3_shareOf 42 = .ok (.getfield 18, 3) := by decide +kernel
theorem dX3_shareOf_45 : decode cX3_shareOf 45 = .ok (.iload 6, 2) := by decide +kernel
theorem dX3_shareOf_47 : decode cX3_shareOf 47 = .ok (.iaload, 1) := by decide +kernel
theorem dX3_shareOf_48 : decode cX3_shareOf 48 = .ok (.imul, 1) := by decide +kernel
theorem dX3_shareOf_49 : decode cX3_shareOf 49 = .ok (.iload_n 3, 1) := by decide +kernel
theorem dX3_shareOf_50 : decode cX3_shareOf 50 = .ok (.idiv, 1) := by decide +kernel
theorem dX3_shareOf_51 : decode cX3_shareOf 51 = .ok (.isub, 1) := by decide +kernel
theorem dX3_shareOf_52 : decode cX3_shareOf 52 = .ok (.istore 4, 2) := by decide +kernel
theorem dX3_shareOf_54 : decode cX3_shareOf 54 = .ok (.iload 5, 2) := by decide +kernel
theorem dX3_shareOf_56 : decode cX3_shareOf 56 = .ok (.iload 6, 2) := by decide +kernel
theorem dX3_shareOf_58 : decode cX3_shareOf 58 = .ok (.iload_n 1, 1) := by decide +kernel
theorem dX3_shareOf_59 : decode cX3_shareOf 59 = .ok (.if_icmp .ge 17, 3) := by decide +kernel
theorem dX3_shareOf_62 : decode cX3_shareOf 62 = .ok (.aload_n 0, 1) := by decide +kernel
theorem dX3_shareOf_63 : decode cX3_shareOf 63 = .ok (.getfield 18, 3) := by decide +kernel
theorem dX3_shareOf_66 : decode cX3_shareOf 66 = .ok (.iload 6, 2) := by decide +kernel
theorem dX3_shareOf_68 : decode cX3_shareOf 68 = .ok (.iaload, 1) := by decide +kernel
theorem dX3_shareOf_69 : decode cX3_shareOf 69 = .ok (.ifCond .le 7, 3) := by decide +kernel
theorem dX3_shareOf_72 : decode cX3_shareOf 72 = .ok (.iconst 1, 1) := by decide +kernel
theorem dX3_shareOf_73 : decode cX3_shareOf 73 = .ok (.goto 4, 3) := by decide +kernel
theorem dX3_shareOf_76 : decode cX3_shareOf 76 = .ok (.iconst 0, 1) := by decide +kernel
theorem dX3_shareOf_77 : decode cX3_shareOf 77 = .ok (.iadd, 1) := by decide +kernel
theorem dX3_shareOf_78 : decode cX3_shareOf 78 = .ok (.istore 5, 2) := by decide +kernel
theorem dX3_shareOf_80 : decode cX3_shareOf 80 = .ok (.iinc 6 1, 3) := by decide +kernel
theorem dX3_shareOf_83 : decode cX3_shareOf 83 = .ok (.goto (-54), 3) := by decide +kernel
theorem dX3_shareOf_86 : decode cX3_shareOf 86 = .ok (.iload_n 2, 1) := by decide +kernel
theorem dX3_shareOf_87 : decode cX3_shareOf 87 = .ok (.aload_n 0, 1) := by decide +kernel
theorem dX3_shareOf_88 : decode cX3_shareOf 88 = .ok (.getfield 18, 3) := by decide +kernel
theorem dX3_shareOf_91 : decode cX3_shareOf 91 = .ok (.iload_n 1, 1) := by decide +kernel
theorem dX3_shareOf_92 : decode cX3_shareOf 92 = .ok (.iaload, 1) := by decide +kernel
theorem dX3_shareOf_93 : decode cX3_shareOf 93 = .ok (.imul, 1) := by decide +kernel
theorem dX3_shareOf_94 : decode cX3_shareOf 94 = .ok (.iload_n 3, 1) := by decide +kernel
theorem dX3_shareOf_95 : decode cX3_shareOf 95 = .ok (.idiv, 1) := by decide +kernel
theorem dX3_shareOf_96 : decode cX3_shareOf 96 = .ok (.iload 5, 2) := by decide +kernel
theorem dX3_shareOf_98 : decode cX3_shareOf 98 = .ok (.iload 4, 2) := by decide +kernel
theorem dX3_shareOf_100 : decode cX3_shareOf 100 = .ok (.if_icmp .ge 7, 3) := by decide +kernel
theorem dX3_shareOf_103 : decode cX3_shareOf 103 = .ok (.iconst 1, 1) := by decide +kernel
theorem dX3_shareOf_104 : decode cX3_shareOf 104 = .ok (.goto 4, 3) := by decide +kernel
theorem dX3_shareOf_107 : decode cX3_shareOf 107 = .ok (.iconst 0, 1) := by decide +kernel
theorem dX3_shareOf_108 : decode cX3_shareOf 108 = .ok (.iadd, 1) := by decide +kernel
theorem dX3_shareOf_109 : decode cX3_shareOf 109 = .ok (.ireturn, 1) := by decide +kernel
theorem dX3_tickOnce_0 : decode cX3_tickOnce 0 = .ok (.aload_n 0, 1) := by decide +kernel
theorem dX3_tickOnce_1 : decode cX3_tickOnce 1 = .ok (.iconst 1, 1) := by decide +kernel
theorem dX3_tickOnce_2 : decode cX3_tickOnce 2 = .ok (.invokevirtual 98, 3) := by decide +kernel
theorem dX3_tickOnce_5 : decode cX3_tickOnce 5 = .ok (.aload_n 0, 1) := by decide +kernel
theorem dX3_tickOnce_6 : decode cX3_tickOnce 6 = .ok (.invokevirtual 102, 3) := by decide +kernel
theorem dX3_tickOnce_9 : decode cX3_tickOnce 9 = .ok (.ifCond .eq 7, 3) := by decide +kernel
theorem dX3_tickOnce_12 : decode cX3_tickOnce 12 = .ok (.aload_n 0, 1) := by decide +kernel
theorem dX3_tickOnce_13 : decode cX3_tickOnce 13 = .ok (.invokevirtual 106, 3) := by decide +kernel
theorem dX3_tickOnce_16 : decode cX3_tickOnce 16 = .ok (.aload_n 0, 1) := by decide +kernel
theorem dX3_tickOnce_17 : decode cX3_tickOnce 17 = .ok (.invokevirtual 109, 3) := by decide +kernel
theorem dX3_tickOnce_20 : decode cX3_tickOnce 20 = .ok (.return_, 1) := by decide +kernel
theorem dX3_turnBy_0 : decode cX3_turnBy 0 = .ok (.aload_n 0, 1) := by decide +kernel
theorem dX3_turnBy_1 : decode cX3_turnBy 1 = .ok (.getfield 33, 3) := by decide +kernel
theorem dX3_turnBy_4 : decode cX3_turnBy 4 = .ok (.ifCond .le 20, 3) := by decide +kernel
theorem dX3_turnBy_7 : decode cX3_turnBy 7 = .ok (.aload_n 0, 1) := by decide +kernel
theorem dX3_turnBy_8 : decode cX3_turnBy 8 = .ok (.aload_n 0, 1) := by decide +kernel
theorem dX3_turnBy_9 : decode cX3_turnBy 9 = .ok (.getfield 46, 3) := by decide +kernel
theorem dX3_turnBy_12 : decode cX3_turnBy 12 = .ok (.iload_n 1, 1) := by decide +kernel
theorem dX3_turnBy_13 : decode cX3_turnBy 13 = .ok (.iadd, 1) := by decide +kernel
theorem dX3_turnBy_14 : decode cX3_turnBy 14 = .ok (.aload_n 0, 1) := by decide +kernel
theorem dX3_turnBy_15 : decode cX3_turnBy 15 = .ok (.getfield 33, 3) := by decide +kernel
theorem dX3_turnBy_18 : decode cX3_turnBy 18 = .ok (.invokestatic 112, 3) := by decide +kernel
theorem dX3_turnBy_21 : decode cX3_turnBy 21 = .ok (.putfield 46, 3) := by decide +kernel
theorem dX3_turnBy_24 : decode cX3_turnBy 24 = .ok (.return_, 1) := by decide +kernel
theorem dX3_isFallDue_0 : decode cX3_isFallDue 0 = .ok (.aload_n 0, 1) := by decide +kernel
theorem dX3_isFallDue_1 : decode cX3_isFallDue 1 = .ok (.getfield 49, 3) := by decide +kernel
theorem dX3_isFallDue_4 : decode cX3_isFallDue 4 = .ok (.ifCond .le 17, 3) := by decide +kernel
theorem dX3_isFallDue_7 : decode cX3_isFallDue 7 = .ok (.aload_n 0, 1) := by decide +kernel
theorem dX3_isFallDue_8 : decode cX3_isFallDue 8 = .ok (.iconst 0, 1) := by decide +kernel
theorem dX3_isFallDue_9 : decode cX3_isFallDue 9 = .ok (.invokevirtual 118, 3) := by decide +kernel
theorem dX3_isFallDue_12 : decode cX3_isFallDue 12 = .ok (.ldc 52, 2) := by decide +kernel
theorem dX3_isFallDue_14 : decode cX3_isFallDue 14 = .ok (.if_icmp .ne 7, 3) := by decide +kernel
theorem dX3_isFallDue_17 : decode cX3_isFallDue 17 = .ok (.iconst 1, 1) := by decide +kernel
theorem dX3_isFallDue_18 : decode cX3_isFallDue 18 = .ok (.goto 4, 3) := by decide +kernel
theorem dX3_isFallDue_21 : decode cX3_isFallDue 21 = .ok (.iconst 0, 1) := by decide +kernel
theorem dX3_isFallDue_22 : decode cX3_isFallDue 22 = .ok (.ireturn, 1) := by decide +kernel
theorem dX3_dropFirst_0 : decode cX3_dropFirst 0 = .ok (.iconst 0, 1) := by decide +kernel
theorem dX3_dropFirst_1 : decode cX3_dropFirst 1 = .ok (.istore_n 1, 1) := by decide +kernel
theorem dX3_dropFirst_2 : decode cX3_dropFirst 2 = .ok (.iload_n 1, 1) := by decide +kernel
theorem dX3_dropFirst_3 : decode cX3_dropFirst 3 = .ok (.aload_n 0, 1) := by decide +kernel
theorem dX3_dropFirst_4 : decode cX3_dropFirst 4 = .ok (.getfield 37, 3) := by decide +kernel
theorem dX3_dropFirst_7 : decode cX3_dropFirst 7 = .ok (.if_icmp .ge 23, 3) := by decide +kernel
theorem dX3_dropFirst_10 : decode cX3_dropFirst 10 = .ok (.aload_n 0, 1) := by decide +kernel
theorem dX3_dropFirst_11 : decode cX3_dropFirst 11 = .ok (.iload_n 1, 1) := by decide +kernel
theorem dX3_dropFirst_12 : decode cX3_dropFirst 12 = .ok (.invokevirtual 72, 3) := by decide +kernel
theorem dX3_dropFirst_15 : decode cX3_dropFirst 15 = .ok (.ifCond .eq 9, 3) := by decide +kernel
theorem dX3_dropFirst_18 : decode cX3_dropFirst 18 = .ok (.aload_n 0, 1) := by decide +kernel
theorem dX3_dropFirst_19 : decode cX3_dropFirst 19 = .ok (.iload_n 1, 1) := by decide +kernel
theorem dX3_dropFirst_20 : decode cX3_dropFirst 20 = .ok (.invokevirtual 122, 3) := by decide +kernel
theorem dX3_dropFirst_23 : decode cX3_dropFirst 23 = .ok (.return_, 1) := by decide +kernel
theorem dX3_dropFirst_24 : decode cX3_dropFirst 24 = .ok (.iinc 1 1, 3) := by decide +kernel
theorem dX3_dropFirst_27 : decode cX3_dropFirst 27 = .ok (.goto (-25), 3) := by decide +kernel
theorem dX3_dropFirst_30 : decode cX3_dropFirst 30 = .ok (.return_, 1) := by decide +kernel
theorem dX3_fallDown_0 : decode cX3_fallDown 0 = .ok (.aload_n 0, 1) := by decide +kernel
theorem dX3_fallDown_1 : decode cX3_fallDown 1 = .ok (.getfield 46, 3) := by decide +kernel
theorem dX3_fallDown_4 : decode cX3_fallDown 4 = .ok (.ifCond .ne 7, 3) := by decide +kernel
theorem dX3_fallDown_7 : decode cX3_fallDown 7 = .ok (.iconst 0, 1) := by decide +kernel
theorem dX3_fallDown_8 : decode cX3_fallDown 8 = .ok (.goto 12, 3) := by decide +kernel
theorem dX3_fallDown_11 : decode cX3_fallDown 11 = .ok (.aload_n 0, 1) := by decide +kernel
theorem dX3_fallDown_12 : decode cX3_fallDown 12 = .ok (.getfield 33, 3) := by decide +kernel
theorem dX3_fallDown_15 : decode cX3_fallDown 15 = .ok (.aload_n 0, 1) := by decide +kernel
theorem dX3_fallDown_16 : decode cX3_fallDown 16 = .ok (.getfield 46, 3) := by decide +kernel
theorem dX3_fallDown_19 : decode cX3_fallDown 19 = .ok (.isub, 1) := by decide +kernel
theorem dX3_fallDown_20 : decode cX3_fallDown 20 = .ok (.istore_n 2, 1) := by decide +kernel
theorem dX3_fallDown_21 : decode cX3_fallDown 21 = .ok (.iload_n 2, 1) := by decide +kernel
theorem dX3_fallDown_22 : decode cX3_fallDown 22 = .ok (.ifCond .lt 33, 3) := by decide +kernel
theorem dX3_fallDown_25 : decode cX3_fallDown 25 = .ok (.iload_n 2, 1) := by decide +kernel
theorem dX3_fallDown_26 : decode cX3_fallDown 26 = .ok (.bipush 12, 2) := by decide +kernel
theorem dX3_fallDown_28 : decode cX3_fallDown 28 = .ok (.if_icmp .ge 27, 3) := by decide +kernel
theorem dX3_fallDown_31 : decode cX3_fallDown 31 = .ok (.aload_n 0, 1) := by decide +kernel
theorem dX3_fallDown_32 : decode cX3_fallDown 32 = .ok (.getfield 27, 3) := by decide +kernel
theorem dX3_fallDown_35 : decode cX3_fallDown 35 = .ok (.iload_n 1, 1) := by decide +kernel
theorem dX3_fallDown_36 : decode cX3_fallDown 36 = .ok (.iload_n 2, 1) := by decide +kernel
theorem dX3_fallDown_37 : decode cX3_fallDown 37 = .ok (.iastore, 1) := by decide +kernel
theorem dX3_fallDown_38 : decode cX3_fallDown 38 = .ok (.aload_n 0, 1) := by decide +kernel
theorem dX3_fallDown_39 : decode cX3_fallDown 39 = .ok (.getfield 30, 3) := by decide +kernel
theorem dX3_fallDown_42 : decode cX3_fallDown 42 = .ok (.iload_n 2, 1) := by decide +kernel
theorem dX3_fallDown_43 : decode cX3_fallDown 43 = .ok (.iload_n 1, 1) := by decide +kernel
theorem dX3_fallDown_44 : decode cX3_fallDown 44 = .ok (.iastore, 1) := by decide +kernel
theorem dX3_fallDown_45 : decode cX3_fallDown 45 = .ok (.aload_n 0, 1) := by decide +kernel
theorem dX3_fallDown_46 : decode cX3_fallDown 46 = .ok (.dup, 1) := by decide +kernel
theorem dX3_fallDown_47 : decode cX3_fallDown 47 = .ok (.getfield 49, 3) := by decide +kernel
theorem dX3_fallDown_50 : decode cX3_fallDown 50 = .ok (.iconst 1, 1) := by decide +kernel
theorem dX3_fallDown_51 : decode cX3_fallDown 51 = .ok (.isub, 1) := by decide +kernel
theorem dX3_fallDown_52 : decode cX3_fallDown 52 = .ok (.putfield 49, 3) := by decide +kernel
theorem dX3_fallDown_55 : decode cX3_fallDown 55 = .ok (.return_, 1) := by decide +kernel
theorem dX3_letTake_0 : decode cX3_letTake 0 = .ok (.iconst 0, 1) := by decide +kernel
theorem dX3_letTake_1 : decode cX3_letTake 1 = .ok (.istore_n 1, 1) := by decide +kernel
theorem dX3_letTake_2 : decode cX3_letTake 2 = .ok (.iload_n 1, 1) := by decide +kernel
theorem dX3_letTake_3 : decode cX3_letTake 3 = .ok (.aload_n 0, 1) := by decide +kernel
theorem dX3_letTake_4 : decode cX3_letTake 4 = .ok (.getfield 37, 3) := by decide +kernel
theorem dX3_letTake_7 : decode cX3_letTake 7 = .ok (.if_icmp .ge 46, 3) := by decide +kernel
theorem dX3_letTake_10 : decode cX3_letTake 10 = .ok (.aload_n 0, 1) := by decide +kernel
theorem dX3_letTake_11 : decode cX3_letTake 11 = .ok (.getfield 21, 3) := by decide +kernel
theorem dX3_letTake_14 : decode cX3_letTake 14 = .ok (.iload_n 1, 1) := by decide +kernel
theorem dX3_letTake_15 : decode cX3_letTake 15 = .ok (.iaload, 1) := by decide +kernel
theorem dX3_letTake_16 : decode cX3_letTake 16 = .ok (.ldc 52, 2) := by decide +kernel
theorem dX3_letTake_18 : decode cX3_letTake 18 = .ok (.if_icmp .ne 29, 3) := by decide +kernel
theorem dX3_letTake_21 : decode cX3_letTake 21 = .ok (.aload_n 0, 1) := by decide +kernel
theorem dX3_letTake_22 : decode cX3_letTake 22 = .ok (.getfield 43, 3) := by decide +kernel
theorem dX3_letTake_25 : decode cX3_letTake 25 = .ok (.iload_n 1, 1) := by decide +kernel
theorem dX3_letTake_26 : decode cX3_letTake 26 = .ok (.ishr, 1) := by decide +kernel
theorem dX3_letTake_27 : decode cX3_letTake 27 = .ok (.iconst 1, 1) := by decide +kernel
theorem dX3_letTake_28 : decode cX3_letTake 28 = .ok (.iand, 1) := by decide +kernel
theorem dX3_letTake_29 : decode cX3_letTake 29 = .ok (.ifCond .ne 18, 3) := by decide +kernel
theorem dX3_letTake_32 : decode cX3_letTake 32 = .ok (.aload_n 0, 1) := by decide +kernel
theorem dX3_letTake_33 : decode cX3_letTake 33 = .ok (.iload_n 1, 1) := by decide +kernel
theorem dX3_letTake_34 : decode cX3_letTake 34 = .ok (.aload_n 0, 1) := by decide +kernel
theorem dX3_letTake_35 : decode cX3_letTake 35 = .ok (.aload_n 0, 1) := by decide +kernel
theorem dX3_letTake_36 : decode cX3_letTake 36 = .ok (.getfield 15, 3) := by decide +kernel
theorem dX3_letTake_39 : decode cX3_letTake 39 = .ok (.iload_n 1, 1) := by decide +kernel
theorem dX3_letTake_40 : decode cX3_letTake 40 = .ok (.iaload, 1) := by decide +kernel
theorem dX3_letTake_41 : decode cX3_letTake 41 = .ok (.invokevirtual 118, 3) := by decide +kernel
theorem dX3_letTake_44 : decode cX3_letTake 44 = .ok (.invokevirtual 125, 3) := by decide +kernel
theorem dX3_letTake_47 : decode cX3_letTake 47 = .ok (.iinc 1 1, 3) := by decide +kernel
theorem dX3_letTake_50 : decode cX3_letTake 50 = .ok (.goto (-48), 3) := by decide +kernel
theorem dX3_letTake_53 : decode cX3_letTake 53 = .ok (.aload_n 0, 1) := by decide +kernel
theorem dX3_letTake_54 : decode cX3_letTake 54 = .ok (.dup, 1) := by decide +kernel
theorem dX3_letTake_55 : decode cX3_letTake 55 = .ok (.getfield 40, 3) := by decide +kernel
theorem dX3_letTake_58 : decode cX3_letTake 58 = .ok (.iconst 1, 1) := by decide +kernel
theorem dX3_letTake_59 : decode cX3_letTake 59 = .ok (.iadd, 1) := by decide +kernel
theorem dX3_letTake_60 : decode cX3_letTake 60 = .ok (.putfield 40, 3) := by decide +kernel
theorem dX3_letTake_63 : decode cX3_letTake 63 = .ok (.return_, 1) := by decide +kernel
theorem dX3_letLook_0 : decode cX3_letLook 0 = .ok (.iload_n 2, 1) := by decide +kernel
theorem dX3_letLook_1 : decode cX3_letLook 1 = .ok (.iload_n 1, 1) := by decide +kernel
theorem dX3_letLook_2 : decode cX3_letLook 2 = .ok (.if_icmp .ne 24, 3) := by decide +kernel
theorem dX3_letLook_5 : decode cX3_letLook 5 = .ok (.aload_n 0, 1) := by decide +kernel
theorem dX3_letLook_6 : decode cX3_letLook 6 = .ok (.getfield 18, 3) := by decide +kernel
theorem dX3_letLook_9 : decode cX3_letLook 9 = .ok (.iload_n 1, 1) := by decide +kernel
theorem dX3_letLook_10 : decode cX3_letLook 10 = .ok (.iaload, 1) := by decide +kernel
theorem dX3_letLook_11 : decode cX3_letLook 11 = .ok (.bipush 99, 2) := by decide +kernel
theorem dX3_letLook_13 : decode cX3_letLook 13 = .ok (.if_icmp .ge 13, 3) := by decide +kernel
theorem dX3_letLook_16 : decode cX3_letLook 16 = .ok (.aload_n 0, 1) := by decide +kernel
theorem dX3_letLook_17 : decode cX3_letLook 17 = .ok (.getfield 18, 3) := by decide +kernel
theorem dX3_letLook_20 : decode cX3_letLook 20 = .ok (.iload_n 1, 1) := by decide +kernel
theorem dX3_letLook_21 : decode cX3_letLook 21 = .ok (.dup2, 1) := by decide +kernel
theorem dX3_letLook_22 : decode cX3_letLook 22 = .ok (.iaload, 1) := by decide +kernel
theorem dX3_letLook_23 : decode cX3_letLook 23 = .ok (.iconst 1, 1) := by decide +kernel
theorem dX3_letLook_24 : decode cX3_letLook 24 = .ok (.iadd, 1) := by decide +kernel
theorem dX3_letLook_25 : decode cX3_letLook 25 = .ok (.iastore, 1) := by decide +kernel
theorem dX3_letLook_26 : decode cX3_letLook 26 = .ok (.iload_n 2, 1) := by decide +kernel
theorem dX3_letLook_27 : decode cX3_letLook 27 = .ok (.ldc 52, 2) := by decide +kernel
theorem dX3_letLook_29 : decode cX3_letLook 29 = .ok (.if_icmp .eq 18, 3) := by decide +kernel
theorem dX3_letLook_32 : decode cX3_letLook 32 = .ok (.aload_n 0, 1) := by decide +kernel
theorem dX3_letLook_33 : decode cX3_letLook 33 = .ok (.iload_n 1, 1) := by decide +kernel
theorem dX3_letLook_34 : decode cX3_letLook 34 = .ok (.iload_n 2, 1) := by decide +kernel
theorem dX3_letLook_35 : decode cX3_letLook 35 = .ok (.invokevirtual 129, 3) := by decide +kernel
theorem dX3_letLook_38 : decode cX3_letLook 38 = .ok (.ifCond .eq 9, 3) := by decide +kernel
theorem dX3_letLook_41 : decode cX3_letLook 41 = .ok (.aload_n 0, 1) := by decide +kernel
theorem dX3_letLook_42 : decode cX3_letLook 42 = .ok (.iload_n 1, 1) := by decide +kernel
theorem dX3_letLook_43 : decode cX3_letLook 43 = .ok (.iload_n 2, 1) := by decide +kernel
theorem dX3_letLook_44 : decode cX3_letLook 44 = .ok (.invokevirtual 132, 3) := by decide +kernel
theorem dX3_letLook_47 : decode cX3_letLook 47 = .ok (.return_, 1) := by decide +kernel
theorem dX3_wants_0 : decode cX3_wants 0 = .ok (.aload_n 0, 1) := by decide +kernel
theorem dX3_wants_1 : decode cX3_wants 1 = .ok (.getfield 9, 3) := by decide +kernel
theorem dX3_wants_4 : decode cX3_wants 4 = .ok (.iload_n 1, 1) := by decide +kernel
theorem dX3_wants_5 : decode cX3_wants 5 = .ok (.iaload, 1) := by decide +kernel
theorem dX3_wants_6 : decode cX3_wants 6 = .ok (.tableswitch 127 1 5 #[34, 45, 64, 85, 106], 34) := by decide +kernel
theorem dX3_wants_40 : decode cX3_wants 40 = .ok (.iload_n 2, 1) := by decide +kernel
theorem dX3_wants_41 : decode cX3_wants 41 = .ok (.iload_n 1, 1) := by decide +kernel
theorem dX3_wants_42 : decode cX3_wants 42 = .ok (.if_icmp .ne 7, 3) := by decide +kernel
theorem dX3_wants_45 : decode cX3_wants 45 = .ok (.iconst 1, 1) := by decide +kernel
theorem dX3_wants_46 : decode cX3_wants 46 = .ok (.goto 4, 3) := by decide +kernel
theorem dX3_wants_49 : decode cX3_wants 49 = .ok (.iconst 0, 1) := by decide +kernel
theorem dX3_wants_50 : decode cX3_wants 50 = .ok (.ireturn, 1) := by decide +kernel
theorem dX3_wants_51 : decode cX3_wants 51 = .ok (.iload_n 2, 1) := by decide +kernel
theorem dX3_wants_52 : decode cX3_wants 52 = .ok (.iload_n 1, 1) := by decide +kernel
theorem dX3_wants_53 : decode cX3_wants 53 = .ok (.if_icmp .ne 15, 3) := by decide +kernel
theorem dX3_wants_56 : decode cX3_wants 56 = .ok (.aload_n 0, 1) := by decide +kernel
theorem dX3_wants_57 : decode cX3_wants 57 = .ok (.iload_n 1, 1) := by decide +kernel
theorem dX3_wants_58 : decode cX3_wants 58 = .ok (.invokevirtual 135, 3) := by decide +kernel
theorem dX3_wants_61 : decode cX3_wants 61 = .ok (.ifCond .eq 7, 3) := by decide +kernel
theorem dX3_wants_64 : decode cX3_wants 64 = .ok (.iconst 1, 1) := by decide +kernel
theorem dX3_wants_65 : decode cX3_wants 65 = .ok (.goto 4, 3) := by decide +kernel
theorem dX3_wants_68 : decode cX3_wants 68 = .ok (.iconst 0, 1) := by decide +kernel
theorem dX3_wants_69 : decode cX3_wants 69 = .ok (.ireturn, 1) := by decide +kernel
theorem dX3_wants_70 : decode cX3_wants 70 = .ok (.aload_n 0, 1) := by decide +kernel
theorem dX3_wants_71 : decode cX3_wants 71 = .ok (.getfield 24, 3) := by decide +kernel
theorem dX3_wants_74 : decode cX3_wants 74 = .ok (.iload_n 2, 1) := by decide +kernel
theorem dX3_wants_75 : decode cX3_wants 75 = .ok (.iaload, 1) := by decide +kernel
theorem dX3_wants_76 : decode cX3_wants 76 = .ok (.aload_n 0, 1) := by decide +kernel
theorem dX3_wants_77 : decode cX3_wants 77 = .ok (.getfield 24, 3) := by decide +kernel
theorem dX3_wants_80 : decode cX3_wants 80 = .ok (.iload_n 1, 1) := by decide +kernel
theorem dX3_wants_81 : decode cX3_wants 81 = .ok (.iaload, 1) := by decide +kernel
theorem dX3_wants_82 : decode cX3_wants 82 = .ok (.if_icmp .ne 7, 3) := by decide +kernel
theorem dX3_wants_85 : decode cX3_wants 85 = .ok (.iconst 1, 1) := by decide +kernel
theorem dX3_wants_86 : decode cX3_wants 86 = .ok (.goto 4, 3) := by decide +kernel
theorem dX3_wants_89 : decode cX3_wants 89 = .ok (.iconst 0, 1) := by decide +kernel
theorem dX3_wants_90 : decode cX3_wants 90 = .ok (.ireturn, 1) := by decide +kernel
theorem dX3_wants_91 : decode cX3_wants 91 = .ok (.iload_n 2, 1) := by decide +kernel
theorem dX3_wants_92 : decode cX3_wants 92 = .ok (.iload_n 1, 1) := by decide +kernel
theorem dX3_wants_93 : decode cX3_wants 93 = .ok (.if_icmp .ne 17, 3) := by decide +kernel
theorem dX3_wants_96 : decode cX3_wants 96 = .ok (.aload_n 0, 1) := by decide +kernel
theorem dX3_wants_97 : decode cX3_wants 97 = .ok (.getfield 18, 3) := by decide +kernel
theorem dX3_wants_100 : decode cX3_wants 100 = .ok (.iload_n 1, 1) := by decide +kernel
theorem dX3_wants_101 : decode cX3_wants 101 = .ok (.iaload, 1) := by decide +kernel
theorem dX3_wants_102 : decode cX3_wants 102 = .ok (.iconst 2, 1) := by decide +kernel
theorem dX3_wants_103 : decode cX3_wants 103 = .ok (.if_icmp .lt 7, 3) := by decide +kernel
theorem dX3_wants_106 : decode cX3_wants 106 = .ok (.iconst 1, 1) := by decide +kernel
theorem dX3_wants_107 : decode cX3_wants 107 = .ok (.goto 4, 3) := by decide +kernel
theorem dX3_wants_110 : decode cX3_wants 110 = .ok (.iconst 0, 1) := by decide +kernel
theorem dX3_wants_111 : decode cX3_wants 111 = .ok (.ireturn, 1) := by decide +kernel
theorem dX3_wants_112 : decode cX3_wants 112 = .ok (.iload_n 2, 1) := by decide +kernel
theorem dX3_wants_113 : decode cX3_wants 113 = .ok (.iload_n 1, 1) := by decide +kernel
theorem dX3_wants_114 : decode cX3_wants 114 = .ok (.if_icmp .ne 17, 3) := by decide +kernel
theorem dX3_wants_117 : decode cX3_wants 117 = .ok (.aload_n 0, 1) := by decide +kernel
theorem dX3_wants_118 : decode cX3_wants 118 = .ok (.getfield 18, 3) := by decide +kernel
theorem dX3_wants_121 : decode cX3_wants 121 = .ok (.iload_n 1, 1) := by decide +kernel
theorem dX3_wants_122 : decode cX3_wants 122 = .ok (.iaload, 1) := by decide +kernel
theorem dX3_wants_123 : decode cX3_wants 123 = .ok (.iconst 3, 1) := by decide +kernel
theorem dX3_wants_124 : decode cX3_wants 124 = .ok (.if_icmp .lt 7, 3) := by decide +kernel
theorem dX3_wants_127 : decode cX3_wants 127 = .ok (.iconst 1, 1) := by decide +kernel
theorem dX3_wants_128 : decode cX3_wants 128 = .ok (.goto 4, 3) := by decide +kernel
theorem dX3_wants_131 : decode cX3_wants 131 = .ok (.iconst 0, 1) := by decide +kernel
theorem dX3_wants_132 : decode cX3_wants 132 = .ok (.ireturn, 1) := by decide +kernel
theorem dX3_wants_133 : decode cX3_wants 133 = .ok (.iconst 0, 1) := by decide +kernel
theorem dX3_wants_134 : decode cX3_wants 134 = .ok (.ireturn, 1) := by decide +kernel
theorem dX3_isAlone_0 : decode cX3_isAlone 0 = .ok (.iconst 0, 1) := by decide +kernel
theorem dX3_isAlone_1 : decode cX3_isAlone 1 = .ok (.istore_n 2, 1) := by decide +kernel
theorem dX3_isAlone_2 : decode cX3_isAlone 2 = .ok (.iload_n 2, 1) := by decide +kernel
theorem dX3_isAlone_3 : decode cX3_isAlone 3 = .ok (.aload_n 0, 1) := by decide +kernel
theorem dX3_isAlone_4 : decode cX3_isAlone 4 = .ok (.getfield 37, 3) := by decide +kernel
theorem dX3_isAlone_7 : decode cX3_isAlone 7 = .ok (.if_icmp .ge 87, 3) := by decide +kernel
theorem dX3_isAlone_10 : decode cX3_isAlone 10 = .ok (.aload_n 0, 1) := by decide +kernel
theorem dX3_isAlone_11 : decode cX3_isAlone 11 = .ok (.getfield 15, 3) := by decide +kernel
theorem dX3_isAlone_14 : decode cX3_isAlone 14 = .ok (.iload_n 2, 1) := by decide +kernel
theorem dX3_isAlone_15 : decode cX3_isAlone 15 = .ok (.iaload, 1) := by decide +kernel
theorem dX3_isAlone_16 : decode cX3_isAlone 16 = .ok (.aload_n 0, 1) := by decide +kernel
theorem dX3_isAlone_17 : decode cX3_isAlone 17 = .ok (.getfield 15, 3) := by decide +kernel
theorem dX3_isAlone_20 : decode cX3_isAlone 20 = .ok (.iload_n 1, 1) := by decide +kernel
theorem dX3_isAlone_21 : decode cX3_isAlone 21 = .ok (.iaload, 1) := by decide +kernel
theorem dX3_isAlone_22 : decode cX3_isAlone 22 = .ok (.if_icmp .le 19, 3) := by decide +kernel
theorem dX3_isAlone_25 : decode cX3_isAlone 25 = .ok (.aload_n 0, 1) := by decide +kernel
theorem dX3_isAlone_26 : decode cX3_isAlone 26 = .ok (.getfield 15, 3) := by decide +kernel
theorem dX3_isAlone_29 : decode cX3_isAlone 29 = .ok (.iload_n 2, 1) := by decide +kernel
theorem dX3_isAlone_30 : decode cX3_isAlone 30 = .ok (.iaload, 1) := by decide +kernel
theorem dX3_isAlone_31 : decode cX3_isAlone 31 = .ok (.aload_n 0, 1) := by decide +kernel
theorem dX3_isAlone_32 : decode cX3_isAlone 32 = .ok (.getfield 15, 3) := by decide +kernel
theorem dX3_isAlone_35 : decode cX3_isAlone 35 = .ok (.iload_n 1, 1) := by decide +kernel
theorem dX3_isAlone_36 : decode cX3_isAlone 36 = .ok (.iaload, 1) := by decide +kernel
theorem dX3_isAlone_37 : decode cX3_isAlone 37 = .ok (.isub, 1) := by decide +kernel
theorem dX3_isAlone_38 : decode cX3_isAlone 38 = .ok (.goto 16, 3) := by decide +kernel
theorem dX3_isAlone_41 : decode cX3_isAlone 41 = .ok (.aload_n 0, 1) := by decide +kernel
theorem dX3_isAlone_42 : decode cX3_isAlone 42 = .ok (.getfield 15, 3) := by decide +kernel
theorem dX3_isAlone_45 : decode cX3_isAlone 45 = .ok (.iload_n 1, 1) := by decide +kernel
theorem dX3_isAlone_46 : decode cX3_isAlone 46 = .ok (.iaload, 1) := by decide +kernel
theorem dX3_isAlone_47 : decode cX3_isAlone 47 = .ok (.aload_n 0, 1) := by decide +kernel
theorem dX3_isAlone_48 : decode cX3_isAlone 48 = .ok (.getfield 15, 3) := by decide +kernel
theorem dX3_isAlone_51 : decode cX3_isAlone 51 = .ok (.iload_n 2, 1) := by decide +kernel
theorem dX3_isAlone_52 : decode cX3_isAlone 52 = .ok (.iaload, 1) := by decide +kernel
theorem dX3_isAlone_53 : decode cX3_isAlone 53 = .ok (.isub, 1) := by decide +kernel
theorem dX3_isAlone_54 : decode cX3_isAlone 54 = .ok (.istore_n 3, 1) := by decide +kernel
theorem dX3_isAlone_55 : decode cX3_isAlone 55 = .ok (.iload_n 2, 1) := by decide +kernel
theorem dX3_isAlone_56 : decode cX3_isAlone 56 = .ok (.iload_n 1, 1) := by decide +kernel
theorem dX3_isAlone_57 : decode cX3_isAlone 57 = .ok (.if_icmp .eq 31, 3) := by decide +kernel
theorem dX3_isAlone_60 : decode cX3_isAlone 60 = .ok (.aload_n 0, 1) := by decide +kernel
theorem dX3_isAlone_61 : decode cX3_isAlone 61 = .ok (.getfield 21, 3) := by decide +kernel
theorem dX3_isAlone_64 : decode cX3_isAlone 64 = .ok (.iload_n 2, 1) := by decide +kernel
theorem dX3_isAlone_65 : decode cX3_isAlone 65 = .ok (.iaload, 1) := by decide +kernel
theorem dX3_isAlone_66 : decode cX3_isAlone 66 = .ok (.ldc 52, 2) := by decide +kernel
theorem dX3_isAlone_68 : decode cX3_isAlone 68 = .ok (.if_icmp .ne 20, 3) := by decide +kernel
theorem dX3_isAlone_71 : decode cX3_isAlone 71 = .ok (.iload_n 3, 1) := by decide +kernel
theorem dX3_isAlone_72 : decode cX3_isAlone 72 = .ok (.iconst 1, 1) := by decide +kernel
theorem dX3_isAlone_73 : decode cX3_isAlone 73 = .ok (.if_icmp .le 13, 3) := by decide +kernel
theorem dX3_isAlone_76 : decode cX3_isAlone 76 = .ok (.iload_n 3, 1) := by decide +kernel
theorem dX3_isAlone_77 : decode cX3_isAlone 77 = .ok (.aload_n 0, 1) := by decide +kernel
theorem dX3_isAlone_78 : decode cX3_isAlone 78 = .ok (.getfield 33, 3) := by decide +kernel
theorem dX3_isAlone_81 : decode cX3_isAlone 81 = .ok (.iconst 1, 1) := by decide +kernel
theorem dX3_isAlone_82 : decode cX3_isAlone 82 = .ok (.isub, 1) := by decide +kernel
theorem dX3_isAlone_83 : decode cX3_isAlone 83 = .ok (.if_icmp .ne 5, 3) := by decide +kernel
theorem dX3_isAlone_86 : decode cX3_isAlone 86 = .ok (.iconst 0, 1) := by decide +kernel
theorem dX3_isAlone_87 : decode cX3_isAlone 87 = .ok (.ireturn, 1) := by decide +kernel
theorem dX3_isAlone_88 : decode cX3_isAlone 88 = .ok (.iinc 2 1, 3) := by decide +kernel
theorem dX3_isAlone_91 : decode cX3_isAlone 91 = .ok (.goto (-89), 3) := by decide +kernel
theorem dX3_isAlone_94 : decode cX3_isAlone 94 = .ok (.iconst 1, 1) := by decide +kernel
theorem dX3_isAlone_95 : decode cX3_isAlone 95 = .ok (.ireturn, 1) := by decide +kernel
theorem dX3_take_0 : decode cX3_take 0 = .ok (.aload_n 0, 1) := by decide +kernel
theorem dX3_take_1 : decode cX3_take 1 = .ok (.iload_n 2, 1) := by decide +kernel
theorem dX3_take_2 : decode cX3_take 2 = .ok (.invokevirtual 68, 3) := by decide +kernel
theorem dX3_take_5 : decode cX3_take 5 = .ok (.ifCond .eq 33, 3) := by decide +kernel
theorem dX3_take_8 : decode cX3_take 8 = .ok (.aload_n 0, 1) := by decide +kernel
theorem dX3_take_9 : decode cX3_take 9 = .ok (.getfield 30, 3) := by decide +kernel
theorem dX3_take_12 : decode cX3_take 12 = .ok (.aload_n 0, 1) := by decide +kernel
theorem dX3_take_13 : decode cX3_take 13 = .ok (.getfield 27, 3) := by decide +kernel
theorem dX3_take_16 : decode cX3_take 16 = .ok (.iload_n 2, 1) := by decide +kernel
theorem dX3_take_17 : decode cX3_take 17 = .ok (.iaload, 1) := by decide +kernel
theorem dX3_take_18 : decode cX3_take 18 = .ok (.ldc 52, 2) := by decide +kernel
theorem dX3_take_20 : decode cX3_take 20 = .ok (.iastore, 1) := by decide +kernel
theorem dX3_take_21 : decode cX3_take 21 = .ok (.aload_n 0, 1) := by decide +kernel
theorem dX3_take_22 : decode cX3_take 22 = .ok (.getfield 27, 3) := by decide +kernel
theorem dX3_take_25 : decode cX3_take 25 = .ok (.iload_n 2, 1) := by decide +kernel
theorem dX3_take_26 : decode cX3_take 26 = .ok (.bipush 30, 2) := by decide +kernel
theorem dX3_take_28 : decode cX3_take 28 = .ok (.iload_n 1, 1) := by decide +kernel
theorem dX3_take_29 : decode cX3_take 29 = .ok (.iadd, 1) := by decide +kernel
theorem dX3_take_30 : decode cX3_take 30 = .ok (.iastore, 1) := by decide +kernel
theorem dX3_take_31 : decode cX3_take 31 = .ok (.aload_n 0, 1) := by decide +kernel
theorem dX3_take_32 : decode cX3_take 32 = .ok (.getfield 21, 3) := by decide +kernel
theorem dX3_take_35 : decode cX3_take 35 = .ok (.iload_n 1, 1) := by decide +kernel
theorem dX3_take_36 : decode cX3_take 36 = .ok (.iload_n 2, 1) := by decide +kernel
theorem dX3_take_37 : decode cX3_take 37 = .ok (.iastore, 1) := by decide +kernel
theorem dX3_take_38 : decode cX3_take 38 = .ok (.return_, 1) := by decide +kernel
theorem dX3_comeBack_0 : decode cX3_comeBack 0 = .ok (.aload_n 0, 1) := by decide +kernel
theorem dX3_comeBack_1 : decode cX3_comeBack 1 = .ok (.getfield 21, 3) := by decide +kernel
theorem dX3_comeBack_4 : decode cX3_comeBack 4 = .ok (.iload_n 1, 1) := by decide +kernel
theorem dX3_comeBack_5 : decode cX3_comeBack 5 = .ok (.iaload, 1) := by decide +kernel
theorem dX3_comeBack_6 : decode cX3_comeBack 6 = .ok (.istore_n 2, 1) := by decide +kernel
theorem dX3_comeBack_7 : decode cX3_comeBack 7 = .ok (.aload_n 0, 1) := by decide +kernel
theorem dX3_comeBack_8 : decode cX3_comeBack 8 = .ok (.iload_n 2, 1) := by decide +kernel
theorem dX3_comeBack_9 : decode cX3_comeBack 9 = .ok (.invokevirtual 138, 3) := by decide +kernel
theorem dX3_comeBack_12 : decode cX3_comeBack 12 = .ok (.ifCond .eq 36, 3) := by decide +kernel
theorem dX3_comeBack_15 : decode cX3_comeBack 15 = .ok (.aload_n 0, 1) := by decide +kernel
theorem dX3_comeBack_16 : decode cX3_comeBack 16 = .ok (.getfield 27, 3) := by decide +kernel
theorem dX3_comeBack_19 : decode cX3_comeBack 19 = .ok (.iload_n 2, 1) := by decide +kernel
theorem dX3_comeBack_20 : decode cX3_comeBack 20 = .ok (.bipush 20, 2) := by decide +kernel
theorem dX3_comeBack_22 : decode cX3_comeBack 22 = .ok (.iastore, 1) := by decide +kernel
theorem dX3_comeBack_23 : decode cX3_comeBack 23 = .ok (.aload_n 0, 1) := by decide +kernel
theorem dX3_comeBack_24 : decode cX3_comeBack 24 = .ok (.dup, 1) := by decide +kernel
theorem dX3_comeBack_25 : decode cX3_comeBack 25 = .ok (.getfield 49, 3) := by decide +kernel
theorem dX3_comeBack_28 : decode cX3_comeBack 28 = .ok (.iconst 1, 1) := by decide +kernel
theorem dX3_comeBack_29 : decode cX3_comeBack 29 = .ok (.iadd, 1) := by decide +kernel
theorem dX3_comeBack_30 : decode cX3_comeBack 30 = .ok (.putfield 49, 3) := by decide +kernel
theorem dX3_comeBack_33 : decode cX3_comeBack 33 = .ok (.aload_n 0, 1) := by decide +kernel
theorem dX3_comeBack_34 : decode cX3_comeBack 34 = .ok (.getfield 21, 3) := by decide +kernel
theorem dX3_comeBack_37 : decode cX3_comeBack 37 = .ok (.iload_n 1, 1) := by decide +kernel
theorem dX3_comeBack_38 : decode cX3_comeBack 38 = .ok (.ldc 52, 2) := by decide +kernel
theorem dX3_comeBack_40 : decode cX3_comeBack 40 = .ok (.iastore, 1) := by decide +kernel
theorem dX3_comeBack_41 : decode cX3_comeBack 41 = .ok (.aload_n 0, 1) := by decide +kernel
theorem dX3_comeBack_42 : decode cX3_comeBack 42 = .ok (.getfield 18, 3) := by decide +kernel
theorem dX3_comeBack_45 : decode cX3_comeBack 45 = .ok (.iload_n 1, 1) := by decide +kernel
theorem dX3_comeBack_46 : decode cX3_comeBack 46 = .ok (.iconst 0, 1) := by decide +kernel
theorem dX3_comeBack_47 : decode cX3_comeBack 47 = .ok (.iastore, 1) := by decide +kernel
theorem dX3_comeBack_48 : decode cX3_comeBack 48 = .ok (.return_, 1) := by decide +kernel
theorem dX0_init_0 : decode cX0_init 0 = .ok (.aload_n 0, 1) := by decide +kernel
theorem dX0_init_1 : decode cX0_init 1 = .ok (.invokespecial 1, 3) := by decide +kernel
theorem dX0_init_4 : decode cX0_init 4 = .ok (.aload_n 0, 1) := by decide +kernel
theorem dX0_init_5 : decode cX0_init 5 = .ok (.sipush 960, 3) := by decide +kernel
theorem dX0_init_8 : decode cX0_init 8 = .ok (.newarray .int, 2) := by decide +kernel
theorem dX0_init_10 : decode cX0_init 10 = .ok (.putfield 11, 3) := by decide +kernel
theorem dX0_init_13 : decode cX0_init 13 = .ok (.return_, 1) := by decide +kernel
theorem dX0_kept_0 : decode cX0_kept 0 = .ok (.aload_n 0, 1) := by decide +kernel
theorem dX0_kept_1 : decode cX0_kept 1 = .ok (.getfield 15, 3) := by decide +kernel
theorem dX0_kept_4 : decode cX0_kept 4 = .ok (.ireturn, 1) := by decide +kernel
theorem dX0_clear_0 : decode cX0_clear 0 = .ok (.aload_n 0, 1) := by decide +kernel
theorem dX0_clear_1 : decode cX0_clear 1 = .ok (.iconst 0, 1) := by decide +kernel
theorem dX0_clear_2 : decode cX0_clear 2 = .ok (.putfield 15, 3) := by decide +kernel
theorem dX0_clear_5 : decode cX0_clear 5 = .ok (.return_, 1) := by decide +kernel
theorem dX0_keep_0 : decode cX0_keep 0 = .ok (.aload_n 1, 1) := by decide +kernel
theorem dX0_keep_1 : decode cX0_keep 1 = .ok (.aload_n 0, 1) := by decide +kernel
theorem dX0_keep_2 : decode cX0_keep 2 = .ok (.getfield 11, 3) := by decide +kernel
theorem dX0_keep_5 : decode cX0_keep 5 = .ok (.aload_n 0, 1) := by decide +kernel
theorem dX0_keep_6 : decode cX0_keep 6 = .ok (.getfield 19, 3) := by decide +kernel
theorem dX0_keep_9 : decode cX0_keep 9 = .ok (.bipush 40, 2) := by decide +kernel
theorem dX0_keep_11 : decode cX0_keep 11 = .ok (.imul, 1) := by decide +kernel
theorem dX0_keep_12 : decode cX0_keep 12 = .ok (.invokevirtual 22, 3) := by decide +kernel
theorem dX0_keep_15 : decode cX0_keep 15 = .ok (.aload_n 0, 1) := by decide +kernel
theorem dX0_keep_16 : decode cX0_keep 16 = .ok (.aload_n 0, 1) := by decide +kernel
theorem dX0_keep_17 : decode cX0_keep 17 = .ok (.getfield 19, 3) := by decide +kernel
theorem dX0_keep_20 : decode cX0_keep 20 = .ok (.iconst 1, 1) := by decide +kernel
theorem dX0_keep_21 : decode cX0_keep 21 = .ok (.iadd, 1) := by decide +kernel
theorem dX0_keep_22 : decode cX0_keep 22 = .ok (.bipush 24, 2) := by decide +kernel
theorem dX0_keep_24 : decode cX0_keep 24 = .ok (.if_icmp .ge 12, 3) := by decide +kernel
theorem dX0_keep_27 : decode cX0_keep 27 = .ok (.aload_n 0, 1) := by decide +kernel
theorem dX0_keep_28 : decode cX0_keep 28 = .ok (.getfield 19, 3) := by decide +kernel
theorem dX0_keep_31 : decode cX0_keep 31 = .ok (.iconst 1, 1) := by decide +kernel
theorem dX0_keep_32 : decode cX0_keep 32 = .ok (.iadd, 1) := by decide +kernel
theorem dX0_keep_33 : decode cX0_keep 33 = .ok (.goto 4, 3) := by decide +kernel
theorem dX0_keep_36 : decode cX0_keep 36 = .ok (.iconst 0, 1) := by decide +kernel
theorem dX0_keep_37 : decode cX0_keep 37 = .ok (.putfield 19, 3) := by decide +kernel
theorem dX0_keep_40 : decode cX0_keep 40 = .ok (.aload_n 0, 1) := by decide +kernel
theorem dX0_keep_41 : decode cX0_keep 41 = .ok (.aload_n 0, 1) := by decide +kernel
theorem dX0_keep_42 : decode cX0_keep 42 = .ok (.getfield 15, 3) := by decide +kernel
theorem dX0_keep_45 : decode cX0_keep 45 = .ok (.iconst 1, 1) := by decide +kernel
theorem dX0_keep_46 : decode cX0_keep 46 = .ok (.iadd, 1) := by decide +kernel
theorem dX0_keep_47 : decode cX0_keep 47 = .ok (.bipush 24, 2) := by decide +kernel
theorem dX0_keep_49 : decode cX0_keep 49 = .ok (.invokestatic 26, 3) := by decide +kernel
theorem dX0_keep_52 : decode cX0_keep 52 = .ok (.putfield 15, 3) := by decide +kernel
theorem dX0_keep_55 : decode cX0_keep 55 = .ok (.return_, 1) := by decide +kernel
theorem dX0_undoIn_0 : decode cX0_undoIn 0 = .ok (.aload_n 0, 1) := by decide +kernel
theorem dX0_undoIn_1 : decode cX0_undoIn 1 = .ok (.getfield 15, 3) := by decide +kernel
theorem dX0_undoIn_4 : decode cX0_undoIn 4 = .ok (.ifCond .ne 5, 3) := by decide +kernel
theorem dX0_undoIn_7 : decode cX0_undoIn 7 = .ok (.iconst 0, 1) := by decide +kernel
theorem dX0_undoIn_8 : decode cX0_undoIn 8 = .ok (.ireturn, 1) := by decide +kernel
theorem dX0_undoIn_9 : decode cX0_undoIn 9 = .ok (.aload_n 0, 1) := by decide +kernel
theorem dX0_undoIn_10 : decode cX0_undoIn 10 = .ok (.dup, 1) := by decide +kernel
theorem dX0_undoIn_11 : decode cX0_undoIn 11 = .ok (.getfield 15, 3) := by decide +kernel
theorem dX0_undoIn_14 : decode cX0_undoIn 14 = .ok (.iconst 1, 1) := by decide +kernel
theorem dX0_undoIn_15 : decode cX0_undoIn 15 = .ok (.isub, 1) := by decide +kernel
theorem dX0_undoIn_16 : decode cX0_undoIn 16 = .ok (.putfield 15, 3) := by decide +kernel
theorem dX0_undoIn_19 : decode cX0_undoIn 19 = .ok (.aload_n 0, 1) := by decide +kernel
theorem dX0_undoIn_20 : decode cX0_undoIn 20 = .ok (.aload_n 0, 1) := by decide +kernel
theorem dX0_undoIn_21 : decode cX0_undoIn 21 = .ok (.getfield 19, 3) := by decide +kernel
theorem dX0_undoIn_24 : decode cX0_undoIn 24 = .ok (.ifCond .le 12, 3) := by decide +kernel
theorem dX0_undoIn_27 : decode cX0_undoIn 27 = .ok (.aload_n 0, 1) := by decide +kernel
theorem dX0_undoIn_28 : decode cX0_undoIn 28 = .ok (.getfield 19, 3) := by decide +kernel
theorem dX0_undoIn_31 : decode cX0_undoIn 31 = .ok (.iconst 1, 1) := by decide +kernel
theorem dX0_undoIn_32 : decode cX0_undoIn 32 = .ok (.isub, 1) := by decide +kernel
theorem dX0_undoIn_33 : decode cX0_undoIn 33 = .ok (.goto 5, 3) := by decide +kernel
theorem dX0_undoIn_36 : decode cX0_undoIn 36 = .ok (.bipush 23, 2) := by decide +kernel
theorem dX0_undoIn_38 : decode cX0_undoIn 38 = .ok (.putfield 19, 3) := by decide +kernel
theorem dX0_undoIn_41 : decode cX0_undoIn 41 = .ok (.aload_n 1, 1) := by decide +kernel
theorem dX0_undoIn_42 : decode cX0_undoIn 42 = .ok (.aload_n 0, 1) := by decide +kernel
theorem dX0_undoIn_43 : decode cX0_undoIn 43 = .ok (.getfield 11, 3) := by decide +kernel
theorem dX0_undoIn_46 : decode cX0_undoIn 46 = .ok (.aload_n 0, 1) := by decide +kernel
theorem dX0_undoIn_47 : decode cX0_undoIn 47 = .ok (.getfield 19, 3) := by decide +kernel
theorem dX0_undoIn_50 : decode cX0_undoIn 50 = .ok (.bipush 40, 2) := by decide +kernel
theorem dX0_undoIn_52 : decode cX0_undoIn 52 = .ok (.imul, 1) := by decide +kernel
theorem dX0_undoIn_53 : decode cX0_undoIn 53 = .ok (.invokevirtual 32, 3) := by decide +kernel
theorem dX0_undoIn_56 : decode cX0_undoIn 56 = .ok (.iconst 1, 1) := by decide +kernel
theorem dX0_undoIn_57 : decode cX0_undoIn 57 = .ok (.ireturn, 1) := by decide +kernel
theorem dX1_init_0 : decode cX1_init 0 = .ok (.aload_n 0, 1) := by decide +kernel
theorem dX1_init_1 : decode cX1_init 1 = .ok (.invokespecial 3, 3) := by decide +kernel
theorem dX1_init_4 : decode cX1_init 4 = .ok (.aload_n 0, 1) := by decide +kernel
theorem dX1_init_5 : decode cX1_init 5 = .ok (.bipush 16, 2) := by decide +kernel
theorem dX1_init_7 : decode cX1_init 7 = .ok (.newarray .int, 2) := by decide +kernel
theorem dX1_init_9 : decode cX1_init 9 = .ok (.putfield 11, 3) := by decide +kernel
theorem dX1_init_12 : decode cX1_init 12 = .ok (.aload_n 0, 1) := by decide +kernel
theorem dX1_init_13 : decode cX1_init 13 = .ok (.aload_n 1, 1) := by decide +kernel
theorem dX1_init_14 : decode cX1_init 14 = .ok (.putfield 15, 3) := by decide +kernel
theorem dX1_init_17 : decode cX1_init 17 = .ok (.return_, 1) := by decide +kernel
theorem dX1_isOfKind_0 : decode cX1_isOfKind 0 = .ok (.iload_n 0, 1) := by decide +kernel
theorem dX1_isOfKind_1 : decode cX1_isOfKind 1 = .ok (.istore_n 2, 1) := by decide +kernel
theorem dX1_isOfKind_2 : decode cX1_isOfKind 2 = .ok (.iconst 0, 1) := by decide +kernel
theorem dX1_isOfKind_3 : decode cX1_isOfKind 3 = .ok (.istore_n 3, 1) := by decide +kernel
theorem dX1_isOfKind_4 : decode cX1_isOfKind 4 = .ok (.iload_n 3, 1) := by decide +kernel
theorem dX1_isOfKind_5 : decode cX1_isOfKind 5 = .ok (.iconst 5, 1) := by decide +kernel
theorem dX1_isOfKind_6 : decode cX1_isOfKind 6 = .ok (.if_icmp .gt 19, 3) := by decide +kernel
theorem dX1_isOfKind_9 : decode cX1_isOfKind 9 = .ok (.iload_n 2, 1) := by decide +kernel
theorem dX1_isOfKind_10 : decode cX1_isOfKind 10 = .ok (.iload_n 1, 1) := by decide +kernel
theorem dX1_isOfKind_11 : decode cX1_isOfKind 11 = .ok (.if_icmp .eq 14, 3) := by decide +kernel
theorem dX1_isOfKind_14 : decode cX1_isOfKind 14 = .ok (.iload_n 2, 1) := by decide +kernel
theorem dX1_isOfKind_15 : decode cX1_isOfKind 15 = .ok (.invokestatic 19, 3) := by decide +kernel
theorem dX1_isOfKind_18 : decode cX1_isOfKind 18 = .ok (.istore_n 2, 1) := by decide +kernel
theorem dX1_isOfKind_19 : decode cX1_isOfKind 19 = .ok (.iinc 3 1, 3) := by decide +kernel
theorem dX1_isOfKind_22 : decode cX1_isOfKind 22 = .ok (.goto (-18), 3) := by decide +kernel
theorem dX1_isOfKind_25 : decode cX1_isOfKind 25 = .ok (.iload_n 2, 1) := by decide +kernel
theorem dX1_isOfKind_26 : decode cX1_isOfKind 26 = .ok (.iload_n 1, 1) := by decide +kernel
theorem dX1_isOfKind_27 : decode cX1_isOfKind 27 = .ok (.if_icmp .ne 7, 3) := by decide +kernel
theorem dX1_isOfKind_30 : decode cX1_isOfKind 30 = .ok (.iconst 1, 1) := by decide +kernel
theorem dX1_isOfKind_31 : decode cX1_isOfKind 31 = .ok (.goto 4, 3) := by decide +kernel
theorem dX1_isOfKind_34 : decode cX1_isOfKind 34 = .ok (.iconst 0, 1) := by decide +kernel
theorem dX1_isOfKind_35 : decode cX1_isOfKind 35 = .ok (.ireturn, 1) := by decide +kernel
theorem dX1_kindAbove_0 : decode cX1_kindAbove 0 = .ok (.iload_n 0, 1) := by decide +kernel
theorem dX1_kindAbove_1 : decode cX1_kindAbove 1 = .ok (.ifCond .lt 19, 3) := by decide +kernel
theorem dX1_kindAbove_4 : decode cX1_kindAbove 4 = .ok (.iload_n 0, 1) := by decide +kernel
theorem dX1_kindAbove_5 : decode cX1_kindAbove 5 = .ok (.getstatic 23, 3) := by decide +kernel
theorem dX1_kindAbove_8 : decode cX1_kindAbove 8 = .ok (.arraylength, 1) := by decide +kernel
theorem dX1_kindAbove_9 : decode cX1_kindAbove 9 = .ok (.if_icmp .ge 11, 3) := by decide +kernel
theorem dX1_kindAbove_12 : decode cX1_kindAbove 12 = .ok (.getstatic 23, 3) := by decide +kernel
theorem dX1_kindAbove_15 : decode cX1_kindAbove 15 = .ok (.iload_n 0, 1) := by decide +kernel
theorem dX1_kindAbove_16 : decode cX1_kindAbove 16 = .ok (.iaload, 1) := by decide +kernel
theorem dX1_kindAbove_17 : decode cX1_kindAbove 17 = .ok (.goto 4, 3) := by decide +kernel
theorem dX1_kindAbove_20 : decode cX1_kindAbove 20 = .ok (.iconst (-1), 1) := by decide +kernel
theorem dX1_kindAbove_21 : decode cX1_kindAbove 21 = .ok (.ireturn, 1) := by decide +kernel
theorem dX1_bodyInTrace_0 : decode cX1_bodyInTrace 0 = .ok (.iload_n 1, 1) := by decide +kernel
theorem dX1_bodyInTrace_1 : decode cX1_bodyInTrace 1 = .ok (.ifCond .lt 20, 3) := by decide +kernel
theorem dX1_bodyInTrace_4 : decode cX1_bodyInTrace 4 = .ok (.iload_n 1, 1) := by decide +kernel
theorem dX1_bodyInTrace_5 : decode cX1_bodyInTrace 5 = .ok (.aload_n 0, 1) := by decide +kernel
theorem dX1_bodyInTrace_6 : decode cX1_bodyInTrace 6 = .ok (.getfield 26, 3) := by decide +kernel
theorem dX1_bodyInTrace_9 : decode cX1_bodyInTrace 9 = .ok (.if_icmp .ge 12, 3) := by decide +kernel
theorem dX1_bodyInTrace_12 : decode cX1_bodyInTrace 12 = .ok (.aload_n 0, 1) := by decide +kernel
theorem dX1_bodyInTrace_13 : decode cX1_bodyInTrace 13 = .ok (.getfield 11, 3) := by decide +kernel
theorem dX1_bodyInTrace_16 : decode cX1_bodyInTrace 16 = .ok (.iload_n 1, 1) := by decide +kernel
theorem dX1_bodyInTrace_17 : decode cX1_bodyInTrace 17 = .ok (.iaload, 1) := by decide +kernel
theorem dX1_bodyInTrace_18 : decode cX1_bodyInTrace 18 = .ok (.goto 5, 3) := by decide +kernel
theorem dX1_bodyInTrace_21 : decode cX1_bodyInTrace 21 = .ok (.ldc 30, 2) := by decide +kernel
theorem dX1_bodyInTrace_23 : decode cX1_bodyInTrace 23 = .ok (.ireturn, 1) := by decide +kernel
theorem dX1_begin_0 : decode cX1_begin 0 = .ok (.aload_n 0, 1) := by decide +kernel
theorem dX1_begin_1 : decode cX1_begin 1 = .ok (.iconst 0, 1) := by decide +kernel
theorem dX1_begin_2 : decode cX1_begin 2 = .ok (.putfield 26, 3) := by decide +kernel
theorem dX1_begin_5 : decode cX1_begin 5 = .ok (.aload_n 0, 1) := by decide +kernel
theorem dX1_begin_6 : decode cX1_begin 6 = .ok (.iload_n 1, 1) := by decide +kernel
theorem dX1_begin_7 : decode cX1_begin 7 = .ok (.iload_n 2, 1) := by decide +kernel
theorem dX1_begin_8 : decode cX1_begin 8 = .ok (.iconst 0, 1) := by decide +kernel
theorem dX1_begin_9 : decode cX1_begin 9 = .ok (.invokevirtual 31, 3) := by decide +kernel
theorem dX1_begin_12 : decode cX1_begin 12 = .ok (.ireturn, 1) := by decide +kernel
theorem dX1_asked_0 : decode cX1_asked 0 = .ok (.iload_n 2, 1) := by decide +kernel
theorem dX1_asked_1 : decode cX1_asked 1 = .ok (.ifCond .ne 9, 3) := by decide +kernel
theorem dX1_asked_4 : decode cX1_asked 4 = .ok (.getstatic 35, 3) := by decide +kernel
theorem dX1_asked_7 : decode cX1_asked 7 = .ok (.goto 6, 3) := by decide +kernel
theorem dX1_asked_10 : decode cX1_asked 10 = .ok (.getstatic 38, 3) := by decide +kernel
theorem dX1_asked_13 : decode cX1_asked 13 = .ok (.astore 4, 2) := by decide +kernel
theorem dX1_asked_15 : decode cX1_asked 15 = .ok (.aload_n 0, 1) := by decide +kernel
theorem dX1_asked_16 : decode cX1_asked 16 = .ok (.getfield 15, 3) := by decide +kernel
theorem dX1_asked_19 : decode cX1_asked 19 = .ok (.getfield 41, 3) := by decide +kernel
theorem dX1_asked_22 : decode cX1_asked 22 = .ok (.iload_n 1, 1) := by decide +kernel
theorem dX1_asked_23 : decode cX1_asked 23 = .ok (.iaload, 1) := by decide +kernel
theorem dX1_asked_24 : decode cX1_asked 24 = .ok (.istore 5, 2) := by decide +kernel
theorem dX1_asked_26 : decode cX1_asked 26 = .ok (.iconst 0, 1) := by decide +kernel
theorem dX1_asked_27 : decode cX1_asked 27 = .ok (.istore 6, 2) := by decide +kernel
theorem dX1_asked_29 : decode cX1_asked 29 = .ok (.iload 6, 2) := by decide +kernel
theorem dX1_asked_31 : decode cX1_asked 31 = .ok (.iconst 5, 1) := by decide +kernel
theorem dX1_asked_32 : decode cX1_asked 32 = .ok (.if_icmp .gt 56, 3) := by decide +kernel
theorem dX1_asked_35 : decode cX1_asked 35 = .ok (.iload 5, 2) := by decide +kernel
theorem dX1_asked_37 : decode cX1_asked 37 = .ok (.ifCond .lt 11, 3) := by decide +kernel
theorem dX1_asked_40 : decode cX1_asked 40 = .ok (.iload 5, 2) := by decide +kernel
theorem dX1_asked_42 : decode cX1_asked 42 = .ok (.aload 4, 2) := by decide +kernel
theorem dX1_asked_44 : decode cX1_asked 44 = .ok (.arraylength, 1) := by decide +kernel
theorem dX1_asked_45 : decode cX1_asked 45 = .ok (.if_icmp .lt 6, 3) := by decide +kernel
theorem dX1_asked_48 : decode cX1_asked 48 = .ok (.ldc 30, 2) := by decide +kernel
theorem dX1_asked_50 : decode cX1_asked 50 = .ok (.ireturn, 1) := by decide +kernel
theorem dX1_asked_51 : decode cX1_asked 51 = .ok (.aload 4, 2) := by decide +kernel
theorem dX1_asked_53 : decode cX1_asked 53 = .ok (.iload 5, 2) := by decide +kernel
theorem dX1_asked_55 : decode cX1_asked 55 = .ok (.iaload, 1) := by decide +kernel
theorem dX1_asked_56 : decode cX1_asked 56 = .ok (.ldc 30, 2) := by decide +kernel
theorem dX1_asked_58 : decode cX1_asked 58 = .ok (.if_icmp .eq 17, 3) := by decide +kernel
theorem dX1_asked_61 : decode cX1_asked 61 = .ok (.aload_n 0, 1) := by decide +kernel
theorem dX1_asked_62 : decode cX1_asked 62 = .ok (.iload_n 1, 1) := by decide +kernel
theorem dX1_asked_63 : decode cX1_asked 63 = .ok (.aload 4, 2) := by decide +kernel
theorem dX1_asked_65 : decode cX1_asked 65 = .ok (.iload 5, 2) := by decide +kernel
theorem dX1_asked_67 : decode cX1_asked 67 = .ok (.iaload, 1) := by decide +kernel
theorem dX1_asked_68 : decode cX1_asked 68 = .ok (.iload_n 3, 1) := by decide +kernel
theorem dX1_asked_69 : decode cX1_asked 69 = .ok (.iconst 1, 1) := by decide +kernel
theorem dX1_asked_70 : decode cX1_asked 70 = .ok (.iadd, 1) := by decide +kernel
theorem dX1_asked_71 : decode cX1_asked 71 = .ok (.invokevirtual 46, 3) := by decide +kernel
theorem dX1_asked_74 : decode cX1_asked 74 = .ok (.ireturn, 1) := by decide +kernel
theorem dX1_asked_75 : decode cX1_asked 75 = .ok (.iload 5, 2) := by decide +kernel
theorem dX1_asked_77 : decode cX1_asked 77 = .ok (.invokestatic 19, 3) := by decide +kernel
theorem dX1_asked_80 : decode cX1_asked 80 = .ok (.istore 5, 2) := by decide +kernel
theorem dX1_asked_82 : decode cX1_asked 82 = .ok (.iinc 6 1, 3) := by decide +kernel
theorem dX1_asked_85 : decode cX1_asked 85 = .ok (.goto (-56), 3) := by decide +kernel
theorem dX1_asked_88 : decode cX1_asked 88 = .ok (.ldc 30, 2) := by decide +kernel
theorem dX1_asked_90 : decode cX1_asked 90 = .ok (.ireturn, 1) := by decide +kernel
theorem dX1_given_0 : decode cX1_given 0 = .ok (.iload_n 3, 1) := by decide +kernel
theorem dX1_given_1 : decode cX1_given 1 = .ok (.bipush 20, 2) := by decide +kernel
theorem dX1_given_3 : decode cX1_given 3 = .ok (.if_icmp .le 6, 3) := by decide +kernel
theorem dX1_given_6 : decode cX1_given 6 = .ok (.ldc 30, 2) := by decide +kernel
theorem dX1_given_8 : decode cX1_given 8 = .ok (.ireturn, 1) := by decide +kernel
theorem dX1_given_9 : decode cX1_given 9 = .ok (.aload_n 0, 1) := by decide +kernel
theorem dX1_given_10 : decode cX1_given 10 = .ok (.iload_n 2, 1) := by decide +kernel
theorem dX1_given_11 : decode cX1_given 11 = .ok (.invokevirtual 49, 3) := by decide +kernel
theorem dX1_given_14 : decode cX1_given 14 = .ok (.iload_n 3, 1) := by decide +kernel
theorem dX1_given_15 : decode cX1_given 15 = .ok (.iconst 1, 1) := by decide +kernel
theorem dX1_given_16 : decode cX1_given 16 = .ok (.iadd, 1) := by decide +kernel
theorem dX1_given_17 : decode cX1_given 17 = .ok (.istore 4, 2) := by decide +kernel
theorem dX1_given_19 : decode cX1_given 19 = .ok (.iload_n 2, 1) := by decide +kernel
theorem dX1_given_20 : decode cX1_given 20 = .ok (.tableswitch 208 10 24 #[76, 86, 105, 116, 129, 208, 208, 208, 208, 208, 141, 143, 163, 177, 196], 76) := by decide +kernel
theorem dX1_given_96 : decode cX1_given 96 = .ok (.aload_n 0, 1) := by decide +kernel
theorem dX1_given_97 : decode cX1_given 97 = .ok (.getfield 15, 3) := by decide +kernel
theorem dX1_given_100 : decode cX1_given 100 = .ok (.getfield 53, 3) := by decide +kernel
theorem dX1_given_103 : decode cX1_given 103 = .ok (.iload_n 1, 1) := by decide +kernel
theorem dX1_given_104 : decode cX1_given 104 = .ok (.iaload, 1) := by decide +kernel
theorem dX1_given_105 : decode cX1_given 105 = .ok (.ireturn, 1) := by decide +kernel
theorem dX1_given_106 : decode cX1_given 106 = .ok (.aload_n 0, 1) := by decide +kernel
theorem dX1_given_107 : decode cX1_given 107 = .ok (.iload_n 1, 1) := by decide +kernel
theorem dX1_given_108 : decode cX1_given 108 = .ok (.bipush 10, 2) := by decide +kernel
theorem dX1_given_110 : decode cX1_given 110 = .ok (.iload 4, 2) := by decide +kernel
theorem dX1_given_112 : decode cX1_given 112 = .ok (.invokevirtual 46, 3) := by decide +kernel
theorem dX1_given_115 : decode cX1_given 115 = .ok (.aload_n 0, 1) := by decide +kernel
theorem dX1_given_116 : decode cX1_given 116 = .ok (.iload_n 1, 1) := by decide +kernel
theorem dX1_given_117 : decode cX1_given 117 = .ok (.iconst 1, 1) := by decide +kernel
theorem dX1_given_118 : decode cX1_given 118 = .ok (.iload 4, 2) := by decide +kernel
theorem dX1_given_120 : decode cX1_given 120 = .ok (.invokevirtual 31, 3) := by decide +kernel
theorem dX1_given_123 : decode cX1_given 123 = .ok (.iadd, 1) := by decide +kernel
theorem dX1_given_124 : decode cX1_given 124 = .ok (.ireturn, 1) := by decide +kernel
theorem dX1_given_125 : decode cX1_given 125 = .ok (.aload_n 0, 1) := by decide +kernel
theorem dX1_given_126 : decode cX1_given 126 = .ok (.iload_n 1, 1) := by decide +kernel
theorem dX1_given_127 : decode cX1_given 127 = .ok (.bipush 11, 2) := by decide +kernel
theorem dX1_given_129 : decode cX1_given 129 = .ok (.iload 4, 2) := by decide +kernel
theorem dX1_given_131 : decode cX1_given 131 = .ok (.invokevirtual 46, 3) := by decide +kernel
theorem dX1_given_134 : decode cX1_given 134 = .ok (.ineg, 1) := by decide +kernel
theorem dX1_given_135 : decode cX1_given 135 = .ok (.ireturn, 1) := by decide +kernel
theorem dX1_given_136 : decode cX1_given 136 = .ok (.aload_n 0, 1) := by decide +kernel
theorem dX1_given_137 : decode cX1_given 137 = .ok (.iload_n 1, 1) := by decide +kernel
theorem dX1_given_138 : decode cX1_given 138 = .ok (.bipush 10, 2) := by decide +kernel
theorem dX1_given_140 : decode cX1_given 140 = .ok (.iload 4, 2) := by decide +kernel
theorem dX1_given_142 : decode cX1_given 142 = .ok (.invokevirtual 46, 3) := by decide +kernel
theorem dX1_given_145 : decode cX1_given 145 = .ok (.bipush 100, 2) := by decide +kernel
theorem dX1_given_147 : decode cX1_given 147 = .ok (.isub, 1) := by decide +kernel
theorem dX1_given_148 : decode cX1_given 148 = .ok (.ireturn, 1) := by decide +kernel
theorem dX1_given_149 : decode cX1_given 149 = .ok (.iconst 2, 1) := by decide +kernel
theorem dX1_given_150 : decode cX1_given 150 = .ok (.aload_n 0, 1) := by decide +kernel
theorem dX1_given_151 : decode cX1_given 151 = .ok (.iload_n 1, 1) := by decide +kernel
theorem dX1_given_152 : decode cX1_given 152 = .ok (.bipush 13, 2) := by decide +kernel
theorem dX1_given_154 : decode cX1_given 154 = .ok (.iload 4, 2) := by decide +kernel
theorem dX1_given_156 : decode cX1_given 156 = .ok (.invokevirtual 46, 3) := by decide +kernel
theorem dX1_given_159 : decode cX1_given 159 = .ok (.imul, 1) := by decide +kernel
theorem dX1_given_160 : decode cX1_given 160 = .ok (.ireturn, 1) := by decide +kernel
theorem dX1_given_161 : decode cX1_given 161 = .ok (.iload_n 1, 1) := by decide +kernel
theorem dX1_given_162 : decode cX1_given 162 = .ok (.ireturn, 1) := by decide +kernel
theorem dX1_given_163 : decode cX1_given 163 = .ok (.aload_n 0, 1) := by decide +kernel
theorem dX1_given_164 : decode cX1_given 164 = .ok (.iload_n 1, 1) := by decide +kernel
theorem dX1_given_165 : decode cX1_given 165 = .ok (.bipush 20, 2) := by decide +kernel
theorem dX1_given_167 : decode cX1_given 167 = .ok (.iload 4, 2) := by decide +kernel
theorem dX1_given_169 : decode cX1_given 169 = .ok (.invokevirtual 46, 3) := by decide +kernel
theorem dX1_given_172 : decode cX1_given 172 = .ok (.aload_n 0, 1) := by decide +kernel
theorem dX1_given_173 : decode cX1_given 173 = .ok (.getfield 15, 3) := by decide +kernel
theorem dX1_given_176 : decode cX1_given 176 = .ok (.getfield 56, 3) := by decide +kernel
theorem dX1_given_179 : decode cX1_given 179 = .ok (.iload_n 1, 1) := by decide +kernel
theorem dX1_given_180 : decode cX1_given 180 = .ok (.iaload, 1) := by decide +kernel
theorem dX1_given_181 : decode cX1_given 181 = .ok (.iadd, 1) := by decide +kernel
theorem dX1_given_182 : decode cX1_given 182 = .ok (.ireturn, 1) := by decide +kernel
theorem dX1_given_183 : decode cX1_given 183 = .ok (.aload_n 0, 1) := by decide +kernel
theorem dX1_given_184 : decode cX1_given 184 = .ok (.iload_n 1, 1) := by decide +kernel
theorem dX1_given_185 : decode cX1_given 185 = .ok (.bipush 21, 2) := by decide +kernel
theorem dX1_given_187 : decode cX1_given 187 = .ok (.iload 4, 2) := by decide +kernel
theorem dX1_given_189 : decode cX1_given 189 = .ok (.invokevirtual 46, 3) := by decide +kernel
theorem dX1_given_192 : decode cX1_given 192 = .ok (.sipush 1000, 3) := by decide +kernel
theorem dX1_given_195 : decode cX1_given 195 = .ok (.isub, 1) := by decide +kernel
theorem dX1_given_196 : decode cX1_given 196 = .ok (.ireturn, 1) := by decide +kernel
theorem dX1_given_197 : decode cX1_given 197 = .ok (.aload_n 0, 1) := by decide +kernel
theorem dX1_given_198 : decode cX1_given 198 = .ok (.iload_n 1, 1) := by decide +kernel
theorem dX1_given_199 : decode cX1_given 199 = .ok (.bipush 20, 2) := by decide +kernel
theorem dX1_given_201 : decode cX1_given 201 = .ok (.iload 4, 2) := by decide +kernel
theorem dX1_given_203 : decode cX1_given 203 = .ok (.invokevirtual 46, 3) := by decide +kernel
theorem dX1_given_206 : decode cX1_given 206 = .ok (.aload_n 0, 1) := by decide +kernel
theorem dX1_given_207 : decode cX1_given 207 = .ok (.iload_n 1, 1) := by decide +kernel
theorem dX1_given_208 : decode cX1_given 208 = .ok (.iconst 0, 1) := by decide +kernel
theorem dX1_given_209 : decode cX1_given 209 = .ok (.iload 4, 2) := by decide +kernel
theorem dX1_given_211 : decode cX1_given 211 = .ok (.invokevirtual 31, 3) := by decide +kernel
theorem dX1_given_214 : decode cX1_given 214 = .ok (.isub, 1) := by decide +kernel
theorem dX1_given_215 : decode cX1_given 215 = .ok (.ireturn, 1) := by decide +kernel
theorem dX1_given_216 : decode cX1_given 216 = .ok (.iconst 2, 1) := by decide +kernel
theorem dX1_given_217 : decode cX1_given 217 = .ok (.aload_n 0, 1) := by decide +kernel
theorem dX1_given_218 : decode cX1_given 218 = .ok (.iload_n 1, 1) := by decide +kernel
theorem dX1_given_219 : decode cX1_given 219 = .ok (.bipush 21, 2) := by decide +kernel
theorem dX1_given_221 : decode cX1_given 221 = .ok (.iload 4, 2) := by decide +kernel
theorem dX1_given_223 : decode cX1_given 223 = .ok (.invokevirtual 46, 3) := by decide +kernel
theorem dX1_given_226 : decode cX1_given 226 = .ok (.imul, 1) := by decide +kernel
theorem dX1_given_227 : decode cX1_given 227 = .ok (.ireturn, 1) := by decide +kernel
theorem dX1_given_228 : decode cX1_given 228 = .ok (.ldc 30, 2) := by decide +kernel
theorem dX1_given_230 : decode cX1_given 230 = .ok (.ireturn, 1) := by decide +kernel
theorem dX1_leave_0 : decode cX1_leave 0 = .ok (.aload_n 0, 1) := by decide +kernel
theorem dX1_leave_1 : decode cX1_leave 1 = .ok (.getfield 26, 3) := by decide +kernel
theorem dX1_leave_4 : decode cX1_leave 4 = .ok (.bipush 16, 2) := by decide +kernel
theorem dX1_leave_6 : decode cX1_leave 6 = .ok (.if_icmp .ge 23, 3) := by decide +kernel
theorem dX1_leave_9 : decode cX1_leave 9 = .ok (.aload_n 0, 1) := by decide +kernel
theorem dX1_leave_10 : decode cX1_leave 10 = .ok (.getfield 11, 3) := by decide +kernel
theorem dX1_leave_13 : decode cX1_leave 13 = .ok (.aload_n 0, 1) := by decide +kernel
theorem dX1_leave_14 : decode cX1_leave 14 = .ok (.getfield 26, 3) := by decide +kernel
theorem dX1_leave_17 : decode cX1_leave 17 = .ok (.iload_n 1, 1) := by decide +kernel
theorem dX1_leave_18 : decode cX1_leave 18 = .ok (.iastore, 1) := by decide +kernel
theorem dX1_leave_19 : decode cX1_leave 19 = .ok (.aload_n 0, 1) := by decide +kernel
theorem dX1_leave_20 : decode cX1_leave 20 = .ok (.dup, 1) := by decide +kernel
theorem dX1_leave_21 : decode cX1_leave 21 = .ok (.getfield 26, 3) := by decide +kernel
theorem dX1_leave_24 : decode cX1_leave 24 = .ok (.iconst 1, 1) := by decide +kernel
theorem dX1_leave_25 : decode cX1_leave 25 = .ok (.iadd, 1) := by decide +kernel
theorem dX1_leave_26 : decode cX1_leave 26 = .ok (.putfield 26, 3) := by decide +kernel
theorem dX1_leave_29 : decode cX1_leave 29 = .ok (.return_, 1) := by decide +kernel
theorem dX5_init_0 : decode cX5_init 0 = .ok (.aload_n 0, 1) := by decide +kernel
theorem dX5_init_1 : decode cX5_init 1 = .ok (.invokespecial 1, 3) := by decide +kernel
theorem dX5_init_4 : decode cX5_init 4 = .ok (.aload_n 0, 1) := by decide +kernel
theorem dX5_init_5 : decode cX5_init 5 = .ok (.bipush 8, 2) := by decide +kernel
theorem dX5_init_7 : decode cX5_init 7 = .ok (.newarray .int, 2) := by decide +kernel
theorem dX5_init_9 : decode cX5_init 9 = .ok (.putfield 9, 3) := by decide +kernel
theorem dX5_init_12 : decode cX5_init 12 = .ok (.aload_n 0, 1) := by decide +kernel
theorem dX5_init_13 : decode cX5_init 13 = .ok (.bipush 8, 2) := by decide +kernel
theorem dX5_init_15 : decode cX5_init 15 = .ok (.newarray .int, 2) := by decide +kernel
theorem dX5_init_17 : decode cX5_init 17 = .ok (.putfield 13, 3) := by decide +kernel
theorem dX5_init_20 : decode cX5_init 20 = .ok (.aload_n 0, 1) := by decide +kernel
theorem dX5_init_21 : decode cX5_init 21 = .ok (.bipush 8, 2) := by decide +kernel
theorem dX5_init_23 : decode cX5_init 23 = .ok (.bipush 40, 2) := by decide +kernel
theorem dX5_init_25 : decode cX5_init 25 = .ok (.multianewarray 16 2, 4) := by decide +kernel
theorem dX5_init_29 : decode cX5_init 29 = .ok (.putfield 18, 3) := by decide +kernel
theorem dX5_init_32 : decode cX5_init 32 = .ok (.aload_n 0, 1) := by decide +kernel
theorem dX5_init_33 : decode cX5_init 33 = .ok (.getfield 9, 3) := by decide +kernel
theorem dX5_init_36 : decode cX5_init 36 = .ok (.iconst (-1), 1) := by decide +kernel
theorem dX5_init_37 : decode cX5_init 37 = .ok (.invokestatic 21, 3) := by decide +kernel
theorem dX5_init_40 : decode cX5_init 40 = .ok (.return_, 1) := by decide +kernel
theorem dX5_isNumber_0 : decode cX5_isNumber 0 = .ok (.iload_n 1, 1) := by decide +kernel
theorem dX5_isNumber_1 : decode cX5_isNumber 1 = .ok (.ifCond .lt 13, 3) := by decide +kernel
theorem dX5_isNumber_4 : decode cX5_isNumber 4 = .ok (.iload_n 1, 1) := by decide +kernel
theorem dX5_isNumber_5 : decode cX5_isNumber 5 = .ok (.bipush 8, 2) := by decide +kernel
theorem dX5_isNumber_7 : decode cX5_isNumber 7 = .ok (.if_icmp .ge 7, 3) := by decide +kernel
theorem dX5_isNumber_10 : decode cX5_isNumber 10 = .ok (.iconst 1, 1) := by decide +kernel
theorem dX5_isNumber_11 : decode cX5_isNumber 11 = .ok (.goto 4, 3) := by decide +kernel
theorem dX5_isNumber_14 : decode cX5_isNumber 14 = .ok (.iconst 0, 1) := by decide +kernel
theorem dX5_isNumber_15 : decode cX5_isNumber 15 = .ok (.ireturn, 1) := by decide +kernel
theorem dX5_isMissing_0 : decode cX5_isMissing 0 = .ok (.aload_n 0, 1) := by decide +kernel
theorem dX5_isMissing_1 : decode cX5_isMissing 1 = .ok (.iload_n 1, 1) := by decide +kernel
theorem dX5_isMissing_2 : decode cX5_isMissing 2 = .ok (.invokevirtual 27, 3) := by decide +kernel
theorem dX5_isMissing_5 : decode cX5_isMissing 5 = .ok (.ifCond .eq 13, 3) := by decide +kernel
theorem dX5_isMissing_8 : decode cX5_isMissing 8 = .ok (.aload_n 0, 1) := by decide +kernel
theorem dX5_isMissing_9 : decode cX5_isMissing 9 = .ok (.getfield 9, 3) := by decide +kernel
theorem dX5_isMissing_12 : decode cX5_isMissing 12 = .ok (.iload_n 1, 1) := by decide +kernel
theorem dX5_isMissing_13 : decode cX5_isMissing 13 = .ok (.iaload, 1) := by decide +kernel
theorem dX5_isMissing_14 : decode cX5_isMissing 14 = .ok (.iconst (-1), 1) := by decide +kernel
theorem dX5_isMissing_15 : decode cX5_isMissing 15 = .ok (.if_icmp .ne 7, 3) := by decide +kernel
theorem dX5_isMissing_18 : decode cX5_isMissing 18 = .ok (.iconst 1, 1) := by decide +kernel
theorem dX5_isMissing_19 : decode cX5_isMissing 19 = .ok (.goto 4, 3) := by decide +kernel
theorem dX5_isMissing_22 : decode cX5_isMissing 22 = .ok (.iconst 0, 1) := by decide +kernel
theorem dX5_isMissing_23 : decode cX5_isMissing 23 = .ok (.ireturn, 1) := by decide +kernel
theorem dX5_laneOf_0 : decode cX5_laneOf 0 = .ok (.aload_n 0, 1) := by decide +kernel
theorem dX5_laneOf_1 : decode cX5_laneOf 1 = .ok (.iload_n 1, 1) := by decide +kernel
theorem dX5_laneOf_2 : decode cX5_laneOf 2 = .ok (.invokevirtual 27, 3) := by decide +kernel
theorem dX5_laneOf_5 : decode cX5_laneOf 5 = .ok (.ifCond .eq 12, 3) := by decide +kernel
theorem dX5_laneOf_8 : decode cX5_laneOf 8 = .ok (.aload_n 0, 1) := by decide +kernel
theorem dX5_laneOf_9 : decode cX5_laneOf 9 = .ok (.getfield 9, 3) := by decide +kernel
theorem dX5_laneOf_12 : decode cX5_laneOf 12 = .ok (.iload_n 1, 1) := by decide +kernel
theorem dX5_laneOf_13 : decode cX5_laneOf 13 = .ok (.iaload, 1) := by decide +kernel
theorem dX5_laneOf_14 : decode cX5_laneOf 14 = .ok (.goto 4, 3) := by decide +kernel
theorem dX5_laneOf_17 : decode cX5_laneOf 17 = .ok (.iconst (-1), 1) := by decide +kernel
theorem dX5_laneOf_18 : decode cX5_laneOf 18 = .ok (.ireturn, 1) := by decide +kernel
theorem dX5_itemsOf_0 : decode cX5_itemsOf 0 = .ok (.aload_n 0, 1) := by decide +kernel
theorem dX5_itemsOf_1 : decode cX5_itemsOf 1 = .ok (.getfield 18, 3) := by decide +kernel
theorem dX5_itemsOf_4 : decode cX5_itemsOf 4 = .ok (.aload_n 0, 1) := by decide +kernel
theorem dX5_itemsOf_5 : decode cX5_itemsOf 5 = .ok (.iload_n 1, 1) := by decide +kernel
theorem dX5_itemsOf_6 : decode cX5_itemsOf 6 = .ok (.invokevirtual 27, 3) := by decide +kernel
theorem dX5_itemsOf_9 : decode cX5_itemsOf 9 = .ok (.ifCond .eq 7, 3) := by decide +kernel
theorem dX5_itemsOf_12 : decode cX5_itemsOf 12 = .ok (.iload_n 1, 1) := by decide +kernel
theorem dX5_itemsOf_13 : decode cX5_itemsOf 13 = .ok (.goto 4, 3) := by decide +kernel
theorem dX5_itemsOf_16 : decode cX5_itemsOf 16 = .ok (.iconst 0, 1) := by decide +kernel
theorem dX5_itemsOf_17 : decode cX5_itemsOf 17 = .ok (.aaload, 1) := by decide +kernel
theorem dX5_itemsOf_18 : decode cX5_itemsOf 18 = .ok (.areturn, 1) := by decide +kernel
theorem dX5_reaches_0 : decode cX5_reaches 0 = .ok (.aload_n 0, 1) := by decide +kernel
theorem dX5_reaches_1 : decode cX5_reaches 1 = .ok (.iload_n 1, 1) := by decide +kernel
theorem dX5_reaches_2 : decode cX5_reaches 2 = .ok (.invokevirtual 31, 3) := by decide +kernel
theorem dX5_reaches_5 : decode cX5_reaches 5 = .ok (.ifCond .ne 37, 3) := by decide +kernel
theorem dX5_reaches_8 : decode cX5_reaches 8 = .ok (.iload_n 2, 1) := by decide +kernel
theorem dX5_reaches_9 : decode cX5_reaches 9 = .ok (.ifCond .lt 33, 3) := by decide +kernel
theorem dX5_reaches_12 : decode cX5_reaches 12 = .ok (.iload_n 3, 1) := by decide +kernel
theorem dX5_reaches_13 : decode cX5_reaches 13 = .ok (.ifCond .lt 29, 3) := by decide +kernel
theorem dX5_reaches_16 : decode cX5_reaches 16 = .ok (.iload_n 2, 1) := by decide +kernel
theorem dX5_reaches_17 : decode cX5_reaches 17 = .ok (.aload_n 0, 1) := by decide +kernel
theorem dX5_reaches_18 : decode cX5_reaches 18 = .ok (.getfield 13, 3) := by decide +kernel
theorem dX5_reaches_21 : decode cX5_reaches 21 = .ok (.iload_n 1, 1) := by decide +kernel
theorem dX5_reaches_22 : decode cX5_reaches 22 = .ok (.iaload, 1) := by decide +kernel
theorem dX5_reaches_23 : decode cX5_reaches 23 = .ok (.if_icmp .gt 19, 3) := by decide +kernel
theorem dX5_reaches_26 : decode cX5_reaches 26 = .ok (.iload_n 3, 1) := by decide +kernel
theorem dX5_reaches_27 : decode cX5_reaches 27 = .ok (.aload_n 0, 1) := by decide +kernel
theorem dX5_reaches_28 : decode cX5_reaches 28 = .ok (.getfield 13, 3) := by decide +kernel
theorem dX5_reaches_31 : decode cX5_reaches 31 = .ok (.iload_n 1, 1) := by decide +kernel
theorem dX5_reaches_32 : decode cX5_reaches 32 = .ok (.iaload, 1) := by decide +kernel
theorem dX5_reaches_33 : decode cX5_reaches 33 = .ok (.iload_n 2, 1) := by decide +kernel
theorem dX5_reaches_34 : decode cX5_reaches 34 = .ok (.isub, 1) := by decide +kernel
theorem dX5_reaches_35 : decode cX5_reaches 35 = .ok (.if_icmp .gt 7, 3) := by decide +kernel
theorem dX5_reaches_38 : decode cX5_reaches 38 = .ok (.iconst 1, 1) := by decide +kernel
theorem dX5_reaches_39 : decode cX5_reaches 39 = .ok (.goto 4, 3) := by decide +kernel
theorem dX5_reaches_42 : decode cX5_reaches 42 = .ok (.iconst 0, 1) := by decide +kernel
theorem dX5_reaches_43 : decode cX5_reaches 43 = .ok (.ireturn, 1) := by decide +kernel
theorem dX5_howMany_0 : decode cX5_howMany 0 = .ok (.iconst 0, 1) := by decide +kernel
theorem dX5_howMany_1 : decode cX5_howMany 1 = .ok (.istore_n 1, 1) := by decide +kernel
theorem dX5_howMany_2 : decode cX5_howMany 2 = .ok (.iconst 0, 1) := by decide +kernel
theorem dX5_howMany_3 : decode cX5_howMany 3 = .ok (.istore_n 2, 1) := by decide +kernel
theorem dX5_howMany_4 : decode cX5_howMany 4 = .ok (.iload_n 2, 1) := by decide +kernel
theorem dX5_howMany_5 : decode cX5_howMany 5 = .ok (.bipush 8, 2) := by decide +kernel
theorem dX5_howMany_7 : decode cX5_howMany 7 = .ok (.if_icmp .ge 25, 3) := by decide +kernel
theorem dX5_howMany_10 : decode cX5_howMany 10 = .ok (.iload_n 1, 1) := by decide +kernel
theorem dX5_howMany_11 : decode cX5_howMany 11 = .ok (.aload_n 0, 1) := by decide +kernel
theorem dX5_howMany_12 : decode cX5_howMany 12 = .ok (.iload_n 2, 1) := by decide +kernel
theorem dX5_howMany_13 : decode cX5_howMany 13 = .ok (.invokevirtual 31, 3) := by decide +kernel
theorem dX5_howMany_16 : decode cX5_howMany 16 = .ok (.ifCond .eq 7, 3) := by decide +kernel
theorem dX5_howMany_19 : decode cX5_howMany 19 = .ok (.iconst 0, 1) := by decide +kernel
theorem dX5_howMany_20 : decode cX5_howMany 20 = .ok (.goto 4, 3) := by decide +kernel
theorem dX5_howMany_23 : decode cX5_howMany 23 = .ok (.iconst 1, 1) := by decide +kernel
theorem dX5_howMany_24 : decode cX5_howMany 24 = .ok (.iadd, 1) := by decide +kernel
theorem dX5_howMany_25 : decode cX5_howMany 25 = .ok (.istore_n 1, 1) := by decide +kernel
theorem dX5_howMany_26 : decode cX5_howMany 26 = .ok (.iinc 2 1, 3) := by decide +kernel
theorem dX5_howMany_29 : decode cX5_howMany 29 = .ok (.goto (-25), 3) := by decide +kernel
theorem dX5_howMany_32 : decode cX5_howMany 32 = .ok (.iload_n 1, 1) := by decide +kernel
theorem dX5_howMany_33 : decode cX5_howMany 33 = .ok (.ireturn, 1) := by decide +kernel
theorem dX5_lay_0 : decode cX5_lay 0 = .ok (.aload_n 0, 1) := by decide +kernel
theorem dX5_lay_1 : decode cX5_lay 1 = .ok (.iload_n 1, 1) := by decide +kernel
theorem dX5_lay_2 : decode cX5_lay 2 = .ok (.invokevirtual 27, 3) := by decide +kernel
theorem dX5_lay_5 : decode cX5_lay 5 = .ok (.ifCond .eq 37, 3) := by decide +kernel
theorem dX5_lay_8 : decode cX5_lay 8 = .ok (.iload_n 3, 1) := by decide +kernel
theorem dX5_lay_9 : decode cX5_lay 9 = .ok (.ifCond .lt 33, 3) := by decide +kernel
theorem dX5_lay_12 : decode cX5_lay 12 = .ok (.iload_n 3, 1) := by decide +kernel
theorem dX5_lay_13 : decode cX5_lay 13 = .ok (.bipush 40, 2) := by decide +kernel
theorem dX5_lay_15 : decode cX5_lay 15 = .ok (.if_icmp .gt 27, 3) := by decide +kernel
theorem dX5_lay_18 : decode cX5_lay 18 = .ok (.aload_n 0, 1) := by decide +kernel
theorem dX5_lay_19 : decode cX5_lay 19 = .ok (.getfield 9, 3) := by decide +kernel
theorem dX5_lay_22 : decode cX5_lay 22 = .ok (.iload_n 1, 1) := by decide +kernel
theorem dX5_lay_23 : decode cX5_lay 23 = .ok (.iload_n 2, 1) := by decide +kernel
theorem dX5_lay_24 : decode cX5_lay 24 = .ok (.iastore, 1) := by decide +kernel
theorem dX5_lay_25 : decode cX5_lay 25 = .ok (.aload_n 0, 1) := by decide +kernel
theorem dX5_lay_26 : decode cX5_lay 26 = .ok (.getfield 13, 3) := by decide +kernel
theorem dX5_lay_29 : decode cX5_lay 29 = .ok (.iload_n 1, 1) := by decide +kernel
theorem dX5_lay_30 : decode cX5_lay 30 = .ok (.iload_n 3, 1) := by decide +kernel
theorem dX5_lay_31 : decode cX5_lay 31 = .ok (.iastore, 1) := by decide +kernel
theorem dX5_lay_32 : decode cX5_lay 32 = .ok (.aload_n 0, 1) := by decide +kernel
theorem dX5_lay_33 : decode cX5_lay 33 = .ok (.getfield 18, 3) := by decide +kernel
theorem dX5_lay_36 : decode cX5_lay 36 = .ok (.iload_n 1, 1) := by decide +kernel
theorem dX5_lay_37 : decode cX5_lay 37 = .ok (.aaload, 1) := by decide +kernel
theorem dX5_lay_38 : decode cX5_lay 38 = .ok (.iconst 0, 1) := by decide +kernel
theorem dX5_lay_39 : decode cX5_lay 39 = .ok (.invokestatic 21, 3) := by decide +kernel
theorem dX5_lay_42 : decode cX5_lay 42 = .ok (.return_, 1) := by decide +kernel
theorem dX5_put_0 : decode cX5_put 0 = .ok (.aload_n 0, 1) := by decide +kernel
theorem dX5_put_1 : decode cX5_put 1 = .ok (.iload_n 1, 1) := by decide +kernel
theorem dX5_put_2 : decode cX5_put 2 = .ok (.iload_n 2, 1) := by decide +kernel
theorem dX5_put_3 : decode cX5_put 3 = .ok (.iconst 1, 1) := by decide +kernel
theorem dX5_put_4 : decode cX5_put 4 = .ok (.invokevirtual 34, 3) := by decide +kernel
theorem dX5_put_7 : decode cX5_put 7 = .ok (.ifCond .ne 5, 3) := by decide +kernel
theorem dX5_put_10 : decode cX5_put 10 = .ok (.iconst 0, 1) := by decide +kernel
theorem dX5_put_11 : decode cX5_put 11 = .ok (.ireturn, 1) := by decide +kernel
theorem dX5_put_12 : decode cX5_put 12 = .ok (.aload_n 0, 1) := by decide +kernel
theorem dX5_put_13 : decode cX5_put 13 = .ok (.getfield 18, 3) := by decide +kernel
theorem dX5_put_16 : decode cX5_put 16 = .ok (.iload_n 1, 1) := by decide +kernel
theorem dX5_put_17 : decode cX5_put 17 = .ok (.aaload, 1) := by decide +kernel
theorem dX5_put_18 : decode cX5_put 18 = .ok (.iload_n 2, 1) := by decide +kernel
theorem dX5_put_19 : decode cX5_put 19 = .ok (.aload_n 0, 1) := by decide +kernel
theorem dX5_put_20 : decode cX5_put 20 = .ok (.getfield 9, 3) := by decide +kernel
theorem dX5_put_23 : decode cX5_put 23 = .ok (.iload_n 1, 1) := by decide +kernel
theorem dX5_put_24 : decode cX5_put 24 = .ok (.iaload, 1) := by decide +kernel
theorem dX5_put_25 : decode cX5_put 25 = .ok (.iload_n 3, 1) := by decide +kernel
theorem dX5_put_26 : decode cX5_put 26 = .ok (.invokestatic 38, 3) := by decide +kernel
theorem dX5_put_29 : decode cX5_put 29 = .ok (.iastore, 1) := by decide +kernel
theorem dX5_put_30 : decode cX5_put 30 = .ok (.aload_n 0, 1) := by decide +kernel
theorem dX5_put_31 : decode cX5_put 31 = .ok (.getfield 18, 3) := by decide +kernel
theorem dX5_put_34 : decode cX5_put 34 = .ok (.iload_n 1, 1) := by decide +kernel
theorem dX5_put_35 : decode cX5_put 35 = .ok (.aaload, 1) := by decide +kernel
theorem dX5_put_36 : decode cX5_put 36 = .ok (.iload_n 2, 1) := by decide +kernel
theorem dX5_put_37 : decode cX5_put 37 = .ok (.iaload, 1) := by decide +kernel
theorem dX5_put_38 : decode cX5_put 38 = .ok (.ireturn, 1) := by decide +kernel
theorem dX5_cutTo_0 : decode cX5_cutTo 0 = .ok (.iload_n 0, 1) := by decide +kernel
theorem dX5_cutTo_1 : decode cX5_cutTo 1 = .ok (.ifCond .ne 6, 3) := by decide +kernel
theorem dX5_cutTo_4 : decode cX5_cutTo 4 = .ok (.iload_n 1, 1) := by decide +kernel
theorem dX5_cutTo_5 : decode cX5_cutTo 5 = .ok (.i2b, 1) := by decide +kernel
theorem dX5_cutTo_6 : decode cX5_cutTo 6 = .ok (.ireturn, 1) := by decide +kernel
theorem dX5_cutTo_7 : decode cX5_cutTo 7 = .ok (.iload_n 0, 1) := by decide +kernel
theorem dX5_cutTo_8 : decode cX5_cutTo 8 = .ok (.iconst 1, 1) := by decide +kernel
theorem dX5_cutTo_9 : decode cX5_cutTo 9 = .ok (.if_icmp .ne 8, 3) := by decide +kernel
theorem dX5_cutTo_12 : decode cX5_cutTo 12 = .ok (.iload_n 1, 1) := by decide +kernel
theorem dX5_cutTo_13 : decode cX5_cutTo 13 = .ok (.i2s, 1) := by decide +kernel
theorem dX5_cutTo_14 : decode cX5_cutTo 14 = .ok (.goto 4, 3) := by decide +kernel
theorem dX5_cutTo_17 : decode cX5_cutTo 17 = .ok (.iload_n 1, 1) := by decide +kernel
theorem dX5_cutTo_18 : decode cX5_cutTo 18 = .ok (.ireturn, 1) := by decide +kernel
theorem dX5_carry_0 : decode cX5_carry 0 = .ok (.aload_n 0, 1) := by decide +kernel
theorem dX5_carry_1 : decode cX5_carry 1 = .ok (.iload_n 1, 1) := by decide +kernel
theorem dX5_carry_2 : decode cX5_carry 2 = .ok (.iload_n 2, 1) := by decide +kernel
theorem dX5_carry_3 : decode cX5_carry 3 = .ok (.iload 5, 2) := by decide +kernel
theorem dX5_carry_5 : decode cX5_carry 5 = .ok (.invokevirtual 34, 3) := by decide +kernel
theorem dX5_carry_8 : decode cX5_carry 8 = .ok (.ifCond .eq 35, 3) := by decide +kernel
theorem dX5_carry_11 : decode cX5_carry 11 = .ok (.aload_n 0, 1) := by decide +kernel
theorem dX5_carry_12 : decode cX5_carry 12 = .ok (.iload_n 3, 1) := by decide +kernel
theorem dX5_carry_13 : decode cX5_carry 13 = .ok (.iload 4, 2) := by decide +kernel
theorem dX5_carry_15 : decode cX5_carry 15 = .ok (.iload 5, 2) := by decide +kernel
theorem dX5_carry_17 : decode cX5_carry 17 = .ok (.invokevirtual 34, 3) := by decide +kernel
theorem dX5_carry_20 : decode cX5_carry 20 = .ok (.ifCond .eq 23, 3) := by decide +kernel
theorem dX5_carry_23 : decode cX5_carry 23 = .ok (.aload_n 0, 1) := by decide +kernel
theorem dX5_carry_24 : decode cX5_carry 24 = .ok (.getfield 18, 3) := by decide +kernel
theorem dX5_carry_27 : decode cX5_carry 27 = .ok (.iload_n 1, 1) := by decide +kernel
theorem dX5_carry_28 : decode cX5_carry 28 = .ok (.aaload, 1) := by decide +kernel
theorem dX5_carry_29 : decode cX5_carry 29 = .ok (.iload_n 2, 1) := by decide +kernel
theorem dX5_carry_30 : decode cX5_carry 30 = .ok (.aload_n 0, 1) := by decide +kernel
theorem dX5_carry_31 : decode cX5_carry 31 = .ok (.getfield 18, 3) := by decide +kernel
theorem dX5_carry_34 : decode cX5_carry 34 = .ok (.iload_n 3, 1) := by decide +kernel
theorem dX5_carry_35 : decode cX5_carry 35 = .ok (.aaload, 1) := by decide +kernel
theorem dX5_carry_36 : decode cX5_carry 36 = .ok (.iload 4, 2) := by decide +kernel
theorem dX5_carry_38 : decode cX5_carry 38 = .ok (.iload 5, 2) := by decide +kernel
theorem dX5_carry_40 : decode cX5_carry 40 = .ok (.invokestatic 42, 3) := by decide +kernel
theorem dX5_carry_43 : decode cX5_carry 43 = .ok (.return_, 1) := by decide +kernel
theorem dX5_remove_0 : decode cX5_remove 0 = .ok (.aload_n 0, 1) := by decide +kernel
theorem dX5_remove_1 : decode cX5_remove 1 = .ok (.iload_n 1, 1) := by decide +kernel
theorem dX5_remove_2 : decode cX5_remove 2 = .ok (.invokevirtual 31, 3) := by decide +kernel
theorem dX5_remove_5 : decode cX5_remove 5 = .ok (.ifCond .eq 5, 3) := by decide +kernel
theorem dX5_remove_8 : decode cX5_remove 8 = .ok (.iconst 0, 1) := by decide +kernel
theorem dX5_remove_9 : decode cX5_remove 9 = .ok (.ireturn, 1) := by decide +kernel
theorem dX5_remove_10 : decode cX5_remove 10 = .ok (.aload_n 0, 1) := by decide +kernel
theorem dX5_remove_11 : decode cX5_remove 11 = .ok (.getfield 9, 3) := by decide +kernel
theorem dX5_remove_14 : decode cX5_remove 14 = .ok (.iload_n 1, 1) := by decide +kernel
theorem dX5_remove_15 : decode cX5_remove 15 = .ok (.iconst (-1), 1) := by decide +kernel
theorem dX5_remove_16 : decode cX5_remove 16 = .ok (.iastore, 1) := by decide +kernel
theorem dX5_remove_17 : decode cX5_remove 17 = .ok (.aload_n 0, 1) := by decide +kernel
theorem dX5_remove_18 : decode cX5_remove 18 = .ok (.getfield 13, 3) := by decide +kernel
theorem dX5_remove_21 : decode cX5_remove 21 = .ok (.iload_n 1, 1) := by decide +kernel
theorem dX5_remove_22 : decode cX5_remove 22 = .ok (.iaload, 1) := by decide +kernel
theorem dX5_remove_23 : decode cX5_remove 23 = .ok (.ireturn, 1) := by decide +kernel
theorem dX6_init_0 : decode cX6_init 0 = .ok (.aload_n 0, 1) := by decide +kernel
theorem dX6_init_1 : decode cX6_init 1 = .ok (.invokespecial 3, 3) := by decide +kernel
theorem dX6_init_4 : decode cX6_init 4 = .ok (.aload_n 0, 1) := by decide +kernel
theorem dX6_init_5 : decode cX6_init 5 = .ok (.bipush 110, 2) := by decide +kernel
theorem dX6_init_7 : decode cX6_init 7 = .ok (.newarray .int, 2) := by decide +kernel
theorem dX6_init_9 : decode cX6_init 9 = .ok (.putfield 11, 3) := by decide +kernel
theorem dX6_init_12 : decode cX6_init 12 = .ok (.return_, 1) := by decide +kernel
theorem dX6_size_0 : decode cX6_size 0 = .ok (.aload_n 0, 1) := by decide +kernel
theorem dX6_size_1 : decode cX6_size 1 = .ok (.getfield 15, 3) := by decide +kernel
theorem dX6_size_4 : decode cX6_size 4 = .ok (.ireturn, 1) := by decide +kernel
theorem dX6_isFull_0 : decode cX6_isFull 0 = .ok (.aload_n 0, 1) := by decide +kernel
theorem dX6_isFull_1 : decode cX6_isFull 1 = .ok (.getfield 15, 3) := by decide +kernel
theorem dX6_isFull_4 : decode cX6_isFull 4 = .ok (.bipush 110, 2) := by decide +kernel
theorem dX6_isFull_6 : decode cX6_isFull 6 = .ok (.if_icmp .lt 7, 3) := by decide +kernel
theorem dX6_isFull_9 : decode cX6_isFull 9 = .ok (.iconst 1, 1) := by decide +kernel
theorem dX6_isFull_10 : decode cX6_isFull 10 = .ok (.goto 4, 3) := by decide +kernel
theorem dX6_isFull_13 : decode cX6_isFull 13 = .ok (.iconst 0, 1) := by decide +kernel
theorem dX6_isFull_14 : decode cX6_isFull 14 = .ok (.ireturn, 1) := by decide +kernel
theorem dX6_add_0 : decode cX6_add 0 = .ok (.aload_n 0, 1) := by decide +kernel
theorem dX6_add_1 : decode cX6_add 1 = .ok (.invokevirtual 19, 3) := by decide +kernel
theorem dX6_add_4 : decode cX6_add 4 = .ok (.ifCond .ne 23, 3) := by decide +kernel
theorem dX6_add_7 : decode cX6_add 7 = .ok (.aload_n 0, 1) := by decide +kernel
theorem dX6_add_8 : decode cX6_add 8 = .ok (.getfield 11, 3) := by decide +kernel
theorem dX6_add_11 : decode cX6_add 11 = .ok (.aload_n 0, 1) := by decide +kernel
theorem dX6_add_12 : decode cX6_add 12 = .ok (.getfield 15, 3) := by decide +kernel
theorem dX6_add_15 : decode cX6_add 15 = .ok (.iload_n 1, 1) := by decide +kernel
theorem dX6_add_16 : decode cX6_add 16 = .ok (.iastore, 1) := by decide +kernel
theorem dX6_add_17 : decode cX6_add 17 = .ok (.aload_n 0, 1) := by decide +kernel
theorem dX6_add_18 : decode cX6_add 18 = .ok (.dup, 1) := by decide +kernel
theorem dX6_add_19 : decode cX6_add 19 = .ok (.getfield 15, 3) := by decide +kernel
theorem dX6_add_22 : decode cX6_add 22 = .ok (.iconst 1, 1) := by decide +kernel
theorem dX6_add_23 : decode cX6_add 23 = .ok (.iadd, 1) := by decide +kernel
theorem dX6_add_24 : decode cX6_add 24 = .ok (.putfield 15, 3) := by decide +kernel
theorem dX6_add_27 : decode cX6_add 27 = .ok (.aload_n 0, 1) := by decide +kernel
theorem dX6_add_28 : decode cX6_add 28 = .ok (.getfield 15, 3) := by decide +kernel
theorem dX6_add_31 : decode cX6_add 31 = .ok (.ireturn, 1) := by decide +kernel
theorem dX6_clear_0 : decode cX6_clear 0 = .ok (.aload_n 0, 1) := by decide +kernel
theorem dX6_clear_1 : decode cX6_clear 1 = .ok (.iconst 0, 1) := by decide +kernel
theorem dX6_clear_2 : decode cX6_clear 2 = .ok (.putfield 15, 3) := by decide +kernel
theorem dX6_clear_5 : decode cX6_clear 5 = .ok (.return_, 1) := by decide +kernel
theorem dX6_faultPlace_0 : decode cX6_faultPlace 0 = .ok (.aload_n 0, 1) := by decide +kernel
theorem dX6_faultPlace_1 : decode cX6_faultPlace 1 = .ok (.getfield 23, 3) := by decide +kernel
theorem dX6_faultPlace_4 : decode cX6_faultPlace 4 = .ok (.ireturn, 1) := by decide +kernel
theorem dX6_readInto_0 : decode cX6_readInto 0 = .ok (.aload_n 0, 1) := by decide +kernel
theorem dX6_readInto_1 : decode cX6_readInto 1 = .ok (.iconst 0, 1) := by decide +kernel
theorem dX6_readInto_2 : decode cX6_readInto 2 = .ok (.putfield 26, 3) := by decide +kernel
theorem dX6_readInto_5 : decode cX6_readInto 5 = .ok (.aload_n 0, 1) := by decide +kernel
theorem dX6_readInto_6 : decode cX6_readInto 6 = .ok (.invokevirtual 29, 3) := by decide +kernel
theorem dX6_readInto_9 : decode cX6_readInto 9 = .ok (.aload_n 0, 1) := by decide +kernel
theorem dX6_readInto_10 : decode cX6_readInto 10 = .ok (.aload_n 1, 1) := by decide +kernel
theorem dX6_readInto_11 : decode cX6_readInto 11 = .ok (.invokevirtual 32, 3) := by decide +kernel
theorem dX6_readInto_14 : decode cX6_readInto 14 = .ok (.istore_n 2, 1) := by decide +kernel
theorem dX6_readInto_15 : decode cX6_readInto 15 = .ok (.iconst 0, 1) := by decide +kernel
theorem dX6_readInto_16 : decode cX6_readInto 16 = .ok (.istore_n 3, 1) := by decide +kernel
theorem dX6_readInto_17 : decode cX6_readInto 17 = .ok (.iload_n 3, 1) := by decide +kernel
theorem dX6_readInto_18 : decode cX6_readInto 18 = .ok (.bipush 6, 2) := by decide +kernel
theorem dX6_readInto_20 : decode cX6_readInto 20 = .ok (.if_icmp .gt 32, 3) := by decide +kernel
theorem dX6_readInto_23 : decode cX6_readInto 23 = .ok (.iload_n 2, 1) := by decide +kernel
theorem dX6_readInto_24 : decode cX6_readInto 24 = .ok (.ifCond .ne 28, 3) := by decide +kernel
theorem dX6_readInto_27 : decode cX6_readInto 27 = .ok (.iload_n 3, 1) := by decide +kernel
theorem dX6_readInto_28 : decode cX6_readInto 28 = .ok (.ifCond .le 12, 3) := by decide +kernel
theorem dX6_readInto_31 : decode cX6_readInto 31 = .ok (.aload_n 0, 1) := by decide +kernel
theorem dX6_readInto_32 : decode cX6_readInto 32 = .ok (.getfield 36, 3) := by decide +kernel
theorem dX6_readInto_35 : decode cX6_readInto 35 = .ok (.ifCond .ne 5, 3) := by decide +kernel
theorem dX6_readInto_38 : decode cX6_readInto 38 = .ok (.iconst 0, 1) := by decide +kernel
theorem dX6_readInto_39 : decode cX6_readInto 39 = .ok (.ireturn, 1) := by decide +kernel
theorem dX6_readInto_40 : decode cX6_readInto 40 = .ok (.aload_n 0, 1) := by decide +kernel
theorem dX6_readInto_41 : decode cX6_readInto 41 = .ok (.aload_n 1, 1) := by decide +kernel
theorem dX6_readInto_42 : decode cX6_readInto 42 = .ok (.invokevirtual 39, 3) := by decide +kernel
theorem dX6_readInto_45 : decode cX6_readInto 45 = .ok (.istore_n 2, 1) := by decide +kernel
theorem dX6_readInto_46 : decode cX6_readInto 46 = .ok (.iinc 3 1, 3) := by decide +kernel
theorem dX6_readInto_49 : decode cX6_readInto 49 = .ok (.goto (-32), 3) := by decide +kernel
theorem dX6_readInto_52 : decode cX6_readInto 52 = .ok (.iload_n 2, 1) := by decide +kernel
theorem dX6_readInto_53 : decode cX6_readInto 53 = .ok (.ireturn, 1) := by decide +kernel
theorem dX6_readLaw_0 : decode cX6_readLaw 0 = .ok (.aload_n 0, 1) := by decide +kernel
theorem dX6_readLaw_1 : decode cX6_readLaw 1 = .ok (.bipush 98, 2) := by decide +kernel
theorem dX6_readLaw_3 : decode cX6_readLaw 3 = .ok (.invokevirtual 42, 3) := by decide +kernel
theorem dX6_readLaw_6 : decode cX6_readLaw 6 = .ok (.istore_n 2, 1) := by decide +kernel
theorem dX6_readLaw_7 : decode cX6_readLaw 7 = .ok (.iload_n 2, 1) := by decide +kernel
theorem dX6_readLaw_8 : decode cX6_readLaw 8 = .ok (.ifCond .ne 11, 3) := by decide +kernel
theorem dX6_readLaw_11 : decode cX6_readLaw 11 = .ok (.aload_n 0, 1) := by decide +kernel
theorem dX6_readLaw_12 : decode cX6_readLaw 12 = .ok (.iconst 4, 1) := by decide +kernel
theorem dX6_readLaw_13 : decode cX6_readLaw 13 = .ok (.bipush 12, 2) := by decide +kernel
theorem dX6_readLaw_15 : decode cX6_readLaw 15 = .ok (.invokevirtual 46, 3) := by decide +kernel
theorem dX6_readLaw_18 : decode cX6_readLaw 18 = .ok (.istore_n 2, 1) := by decide +kernel
theorem dX6_readLaw_19 : decode cX6_readLaw 19 = .ok (.iload_n 2, 1) := by decide +kernel
theorem dX6_readLaw_20 : decode cX6_readLaw 20 = .ok (.ifCond .ne 18, 3) := by decide +kernel
theorem dX6_readLaw_23 : decode cX6_readLaw 23 = .ok (.aload_n 1, 1) := by decide +kernel
theorem dX6_readLaw_24 : decode cX6_readLaw 24 = .ok (.aload_n 0, 1) := by decide +kernel
theorem dX6_readLaw_25 : decode cX6_readLaw 25 = .ok (.getfield 50, 3) := by decide +kernel
theorem dX6_readLaw_28 : decode cX6_readLaw 28 = .ok (.invokevirtual 53, 3) := by decide +kernel
theorem dX6_readLaw_31 : decode cX6_readLaw 31 = .ok (.aload_n 0, 1) := by decide +kernel
theorem dX6_readLaw_32 : decode cX6_readLaw 32 = .ok (.bipush 59, 2) := by decide +kernel
theorem dX6_readLaw_34 : decode cX6_readLaw 34 = .ok (.invokevirtual 42, 3) := by decide +kernel
theorem dX6_readLaw_37 : decode cX6_readLaw 37 = .ok (.istore_n 2, 1) := by decide +kernel
theorem dX6_readLaw_38 : decode cX6_readLaw 38 = .ok (.iload_n 2, 1) := by decide +kernel
theorem dX6_readLaw_39 : decode cX6_readLaw 39 = .ok (.ireturn, 1) := by decide +kernel
theorem dX6_readTraveller_0 : decode cX6_readTraveller 0 = .ok (.aload_n 0, 1) := by decide +kernel
theorem dX6_readTraveller_1 : decode cX6_readTraveller 1 = .ok (.getfield 36, 3) := by decide +kernel
theorem dX6_readTraveller_4 : decode cX6_readTraveller 4 = .ok (.iconst 2, 1) := by decide +kernel
theorem dX6_readTraveller_5 : decode cX6_readTraveller 5 = .ok (.if_icmp .le 16, 3) := by decide +kernel
theorem dX6_readTraveller_8 : decode cX6_readTraveller 8 = .ok (.ldc 59, 2) := by decide +kernel
theorem dX6_readTraveller_10 : decode cX6_readTraveller 10 = .ok (.aload_n 0, 1) := by decide +kernel
theorem dX6_readTraveller_11 : decode cX6_readTraveller 11 = .ok (.getfield 36, 3) := by decide +kernel
theorem dX6_readTraveller_14 : decode cX6_readTraveller 14 = .ok (.i2c, 1) := by decide +kernel
theorem dX6_readTraveller_15 : decode cX6_readTraveller 15 = .ok (.invokevirtual 61, 3) := by decide +kernel
theorem dX6_readTraveller_18 : decode cX6_readTraveller 18 = .ok (.goto 4, 3) := by decide +kernel
theorem dX6_readTraveller_21 : decode cX6_readTraveller 21 = .ok (.iconst (-1), 1) := by decide +kernel
theorem dX6_readTraveller_22 : decode cX6_readTraveller 22 = .ok (.istore_n 2, 1) := by decide +kernel
theorem dX6_readTraveller_23 : decode cX6_readTraveller 23 = .ok (.iload_n 2, 1) := by decide +kernel
theorem dX6_readTraveller_24 : decode cX6_readTraveller 24 = .ok (.ifCond .ge 5, 3) := by decide +kernel
theorem dX6_readTraveller_27 : decode cX6_readTraveller 27 = .ok (.iconst 1, 1) := by decide +kernel
theorem dX6_readTraveller_28 : decode cX6_readTraveller 28 = .ok (.ireturn, 1) := by decide +kernel
theorem dX6_readTraveller_29 : decode cX6_readTraveller 29 = .ok (.aload_n 1, 1) := by decide +kernel
theorem dX6_readTraveller_30 : decode cX6_readTraveller 30 = .ok (.getfield 66, 3) := by decide +kernel
theorem dX6_readTraveller_33 : decode cX6_readTraveller 33 = .ok (.bipush 6, 2) := by decide +kernel
theorem dX6_readTraveller_35 : decode cX6_readTraveller 35 = .ok (.if_icmp .lt 5, 3) := by decide +kernel
theorem dX6_readTraveller_38 : decode cX6_readTraveller 38 = .ok (.iconst 3, 1) := by decide +kernel
theorem dX6_readTraveller_39 : decode cX6_readTraveller 39 = .ok (.ireturn, 1) := by decide +kernel
theorem dX6_readTraveller_40 : decode cX6_readTraveller 40 = .ok (.aload_n 0, 1) := by decide +kernel
theorem dX6_readTraveller_41 : decode cX6_readTraveller 41 = .ok (.invokevirtual 29, 3) := by decide +kernel
theorem dX6_readTraveller_44 : decode cX6_readTraveller 44 = .ok (.aload_n 0, 1) := by decide +kernel
theorem dX6_readTraveller_45 : decode cX6_readTraveller 45 = .ok (.iconst 0, 1) := by decide +kernel
theorem dX6_readTraveller_46 : decode cX6_readTraveller 46 = .ok (.aload_n 1, 1) := by decide +kernel
theorem dX6_readTraveller_47 : decode cX6_readTraveller 47 = .ok (.getfield 69, 3) := by decide +kernel
theorem dX6_readTraveller_50 : decode cX6_readTraveller 50 = .ok (.iconst 1, 1) := by decide +kernel
theorem dX6_readTraveller_51 : decode cX6_readTraveller 51 = .ok (.isub, 1) := by decide +kernel
theorem dX6_readTraveller_52 : decode cX6_readTraveller 52 = .ok (.invokevirtual 46, 3) := by decide +kernel
theorem dX6_readTraveller_55 : decode cX6_readTraveller 55 = .ok (.istore_n 3, 1) := by decide +kernel
theorem dX6_readTraveller_56 : decode cX6_readTraveller 56 = .ok (.aload_n 0, 1) := by decide +kernel
theorem dX6_readTraveller_57 : decode cX6_readTraveller 57 = .ok (.getfield 50, 3) := by decide +kernel
theorem dX6_readTraveller_60 : decode cX6_readTraveller 60 = .ok (.istore 4, 2) := by decide +kernel
theorem dX6_readTraveller_62 : decode cX6_readTraveller 62 = .ok (.iload_n 3, 1) := by decide +kernel
theorem dX6_readTraveller_63 : decode cX6_readTraveller 63 = .ok (.ifCond .ne 10, 3) := by decide +kernel
theorem dX6_readTraveller_66 : decode cX6_readTraveller 66 = .ok (.aload_n 0, 1) := by decide +kernel
theorem dX6_readTraveller_67 : decode cX6_readTraveller 67 = .ok (.bipush 44, 2) := by decide +kernel
theorem dX6_readTraveller_69 : decode cX6_readTraveller 69 = .ok (.invokevirtual 42, 3) := by decide +kernel
theorem dX6_readTraveller_72 : decode cX6_readTraveller 72 = .ok (.istore_n 3, 1) := by decide +kernel
theorem dX6_readTraveller_73 : decode cX6_readTraveller 73 = .ok (.iload_n 3, 1) := by decide +kernel
theorem dX6_readTraveller_74 : decode cX6_readTraveller 74 = .ok (.ifCond .ne 10, 3) := by decide +kernel
theorem dX6_readTraveller_77 : decode cX6_readTraveller 77 = .ok (.aload_n 0, 1) := by decide +kernel
theorem dX6_readTraveller_78 : decode cX6_readTraveller 78 = .ok (.iconst 0, 1) := by decide +kernel
theorem dX6_readTraveller_79 : decode cX6_readTraveller 79 = .ok (.iconst 3, 1) := by decide +kernel
theorem dX6_readTraveller_80 : decode cX6_readTraveller 80 = .ok (.invokevirtual 46, 3) := by decide +kernel
theorem dX6_readTraveller_83 : decode cX6_readTraveller 83 = .ok (.istore_n 3, 1) := by decide +kernel
theorem dX6_readTraveller_84 : decode cX6_readTraveller 84 = .ok (.aload_n 0, 1) := by decide +kernel
theorem dX6_readTraveller_85 : decode cX6_readTraveller 85 = .ok (.getfield 50, 3) := by decide +kernel
theorem dX6_readTraveller_88 : decode cX6_readTraveller 88 = .ok (.istore 5, 2) := by decide +kernel
theorem dX6_readTraveller_90 : decode cX6_readTraveller 90 = .ok (.iload_n 3, 1) := by decide +kernel
theorem dX6_readTraveller_91 : decode cX6_readTraveller 91 = .ok (.ifCond .ne 10, 3) := by decide +kernel
theorem dX6_readTraveller_94 : decode cX6_readTraveller 94 = .ok (.aload_n 0, 1) := by decide +kernel
theorem dX6_readTraveller_95 : decode cX6_readTraveller 95 = .ok (.bipush 59, 2) := by decide +kernel
theorem dX6_readTraveller_97 : decode cX6_readTraveller 97 = .ok (.invokevirtual 42, 3) := by decide +kernel
theorem dX6_readTraveller_100 : decode cX6_readTraveller 100 = .ok (.istore_n 3, 1) := by decide +kernel
theorem dX6_readTraveller_101 : decode cX6_readTraveller 101 = .ok (.iload_n 3, 1) := by decide +kernel
theorem dX6_readTraveller_102 : decode cX6_readTraveller 102 = .ok (.ifCond .ne 14, 3) := by decide +kernel
theorem dX6_readTraveller_105 : decode cX6_readTraveller 105 = .ok (.aload_n 1, 1) := by decide +kernel
theorem dX6_readTraveller_106 : decode cX6_readTraveller 106 = .ok (.iload_n 2, 1) := by decide +kernel
theorem dX6_readTraveller_107 : decode cX6_readTraveller 107 = .ok (.iconst 1, 1) := by decide +kernel
theorem dX6_readTraveller_108 : decode cX6_readTraveller 108 = .ok (.iadd, 1) := by decide +kernel
theorem dX6_readTraveller_109 : decode cX6_readTraveller 109 = .ok (.iload 4, 2) := by decide +kernel
theorem dX6_readTraveller_111 : decode cX6_readTraveller 111 = .ok (.iload 5, 2) := by decide +kernel
theorem dX6_readTraveller_113 : decode cX6_readTraveller 113 = .ok (.invokevirtual 72, 3) := by decide +kernel
theorem dX6_readTraveller_116 : decode cX6_readTraveller 116 = .ok (.iload_n 3, 1) := by decide +kernel
theorem dX6_readTraveller_117 : decode cX6_readTraveller 117 = .ok (.ireturn, 1) := by decide +kernel
theorem dX6_readSign_0 : decode cX6_readSign 0 = .ok (.aload_n 0, 1) := by decide +kernel
theorem dX6_readSign_1 : decode cX6_readSign 1 = .ok (.getfield 36, 3) := by decide +kernel
theorem dX6_readSign_4 : decode cX6_readSign 4 = .ok (.iload_n 1, 1) := by decide +kernel
theorem dX6_readSign_5 : decode cX6_readSign 5 = .ok (.if_icmp .eq 5, 3) := by decide +kernel
theorem dX6_readSign_8 : decode cX6_readSign 8 = .ok (.iconst 1, 1) := by decide +kernel
theorem dX6_readSign_9 : decode cX6_readSign 9 = .ok (.ireturn, 1) := by decide +kernel
theorem dX6_readSign_10 : decode cX6_readSign 10 = .ok (.aload_n 0, 1) := by decide +kernel
theorem dX6_readSign_11 : decode cX6_readSign 11 = .ok (.invokevirtual 29, 3) := by decide +kernel
theorem dX6_readSign_14 : decode cX6_readSign 14 = .ok (.iconst 0, 1) := by decide +kernel
theorem dX6_readSign_15 : decode cX6_readSign 15 = .ok (.ireturn, 1) := by decide +kernel
theorem dX6_readNumber_0 : decode cX6_readNumber 0 = .ok (.aload_n 0, 1) := by decide +kernel
theorem dX6_readNumber_1 : decode cX6_readNumber 1 = .ok (.getfield 36, 3) := by decide +kernel
theorem dX6_readNumber_4 : decode cX6_readNumber 4 = .ok (.iconst 1, 1) := by decide +kernel
theorem dX6_readNumber_5 : decode cX6_readNumber 5 = .ok (.if_icmp .eq 5, 3) := by decide +kernel
theorem dX6_readNumber_8 : decode cX6_readNumber 8 = .ok (.iconst 1, 1) := by decide +kernel
theorem dX6_readNumber_9 : decode cX6_readNumber 9 = .ok (.ireturn, 1) := by decide +kernel
theorem dX6_readNumber_10 : decode cX6_readNumber 10 = .ok (.aload_n 0, 1) := by decide +kernel
theorem dX6_readNumber_11 : decode cX6_readNumber 11 = .ok (.getfield 50, 3) := by decide +kernel
theorem dX6_readNumber_14 : decode cX6_readNumber 14 = .ok (.istore_n 3, 1) := by decide +kernel
theorem dX6_readNumber_15 : decode cX6_readNumber 15 = .ok (.iload_n 3, 1) := by decide +kernel
theorem dX6_readNumber_16 : decode cX6_readNumber 16 = .ok (.iload_n 1, 1) := by decide +kernel
theorem dX6_readNumber_17 : decode cX6_readNumber 17 = .ok (.if_icmp .lt 8, 3) := by decide +kernel
theorem dX6_readNumber_20 : decode cX6_readNumber 20 = .ok (.iload_n 3, 1) := by decide +kernel
theorem dX6_readNumber_21 : decode cX6_readNumber 21 = .ok (.iload_n 2, 1) := by decide +kernel
theorem dX6_readNumber_22 : decode cX6_readNumber 22 = .ok (.if_icmp .le 5, 3) := by decide +kernel
theorem dX6_readNumber_25 : decode cX6_readNumber 25 = .ok (.iconst 2, 1) := by decide +kernel
theorem dX6_readNumber_26 : decode cX6_readNumber 26 = .ok (.ireturn, 1) := by decide +kernel
theorem dX6_readNumber_27 : decode cX6_readNumber 27 = .ok (.aload_n 0, 1) := by decide +kernel
theorem dX6_readNumber_28 : decode cX6_readNumber 28 = .ok (.invokevirtual 29, 3) := by decide +kernel
theorem dX6_readNumber_31 : decode cX6_readNumber 31 = .ok (.aload_n 0, 1) := by decide +kernel
theorem dX6_readNumber_32 : decode cX6_readNumber 32 = .ok (.iload_n 3, 1) := by decide +kernel
theorem dX6_readNumber_33 : decode cX6_readNumber 33 = .ok (.putfield 50, 3) := by decide +kernel
theorem dX6_readNumber_36 : decode cX6_readNumber 36 = .ok (.iconst 0, 1) := by decide +kernel
theorem dX6_readNumber_37 : decode cX6_readNumber 37 = .ok (.ireturn, 1) := by decide +kernel
theorem dX6_nextToken_0 : decode cX6_nextToken 0 = .ok (.aload_n 0, 1) := by decide +kernel
theorem dX6_nextToken_1 : decode cX6_nextToken 1 = .ok (.aload_n 0, 1) := by decide +kernel
theorem dX6_nextToken_2 : decode cX6_nextToken 2 = .ok (.getfield 26, 3) := by decide +kernel
theorem dX6_nextToken_5 : decode cX6_nextToken 5 = .ok (.putfield 23, 3) := by decide +kernel
theorem dX6_nextToken_8 : decode cX6_nextToken 8 = .ok (.aload_n 0, 1) := by decide +kernel
theorem dX6_nextToken_9 : decode cX6_nextToken 9 = .ok (.aload_n 0, 1) := by decide +kernel
theorem dX6_nextToken_10 : decode cX6_nextToken 10 = .ok (.getfield 23, 3) := by decide +kernel
theorem dX6_nextToken_13 : decode cX6_nextToken 13 = .ok (.invokevirtual 76, 3) := by decide +kernel
theorem dX6_nextToken_16 : decode cX6_nextToken 16 = .ok (.istore_n 1, 1) := by decide +kernel
theorem dX6_nextToken_17 : decode cX6_nextToken 17 = .ok (.aload_n 0, 1) := by decide +kernel
theorem dX6_nextToken_18 : decode cX6_nextToken 18 = .ok (.getfield 23, 3) := by decide +kernel
theorem dX6_nextToken_21 : decode cX6_nextToken 21 = .ok (.aload_n 0, 1) := by decide +kernel
theorem dX6_nextToken_22 : decode cX6_nextToken 22 = .ok (.getfield 15, 3) := by decide +kernel
theorem dX6_nextToken_25 : decode cX6_nextToken 25 = .ok (.if_icmp .lt 11, 3) := by decide +kernel
theorem dX6_nextToken_28 : decode cX6_nextToken 28 = .ok (.aload_n 0, 1) := by decide +kernel
theorem dX6_nextToken_29 : decode cX6_nextToken 29 = .ok (.iconst 0, 1) := by decide +kernel
theorem dX6_nextToken_30 : decode cX6_nextToken 30 = .ok (.putfield 36, 3) := by decide +kernel
theorem dX6_nextToken_33 : decode cX6_nextToken 33 = .ok (.goto 70, 3) := by decide +kernel
theorem dX6_nextToken_36 : decode cX6_nextToken 36 = .ok (.iload_n 1, 1) := by decide +kernel
theorem dX6_nextToken_37 : decode cX6_nextToken 37 = .ok (.invokestatic 79, 3) := by decide +kernel
theorem dX6_nextToken_40 : decode cX6_nextToken 40 = .ok (.ifCond .eq 10, 3) := by decide +kernel
theorem dX6_nextToken_43 : decode cX6_nextToken 43 = .ok (.aload_n 0, 1) := by decide +kernel
theorem dX6_nextToken_44 : decode cX6_nextToken 44 = .ok (.invokevirtual 83, 3) := by decide +kernel
theorem dX6_nextToken_47 : decode cX6_nextToken 47 = .ok (.goto 56, 3) := by decide +kernel
theorem dX6_nextToken_50 : decode cX6_nextToken 50 = .ok (.iload_n 1, 1) := by decide +kernel
theorem dX6_nextToken_51 : decode cX6_nextToken 51 = .ok (.bipush 97, 2) := by decide +kernel
theorem dX6_nextToken_53 : decode cX6_nextToken 53 = .ok (.if_icmp .lt 9, 3) := by decide +kernel
theorem dX6_nextToken_56 : decode cX6_nextToken 56 = .ok (.iload_n 1, 1) := by decide +kernel
theorem dX6_nextToken_57 : decode cX6_nextToken 57 = .ok (.bipush 122, 2) := by decide +kernel
theorem dX6_nextToken_59 : decode cX6_nextToken 59 = .ok (.if_icmp .le 15, 3) := by decide +kernel
theorem dX6_nextToken_62 : decode cX6_nextToken 62 = .ok (.iload_n 1, 1) := by decide +kernel
theorem dX6_nextToken_63 : decode cX6_nextToken 63 = .ok (.bipush 44, 2) := by decide +kernel
theorem dX6_nextToken_65 : decode cX6_nextToken 65 = .ok (.if_icmp .eq 9, 3) := by decide +kernel
theorem dX6_nextToken_68 : decode cX6_nextToken 68 = .ok (.iload_n 1, 1) := by decide +kernel
theorem dX6_nextToken_69 : decode cX6_nextToken 69 = .ok (.bipush 59, 2) := by decide +kernel
theorem dX6_nextToken_71 : decode cX6_nextToken 71 = .ok (.if_icmp .ne 7, 3) := by decide +kernel
theorem dX6_nextToken_74 : decode cX6_nextToken 74 = .ok (.iconst 1, 1) := by decide +kernel
theorem dX6_nextToken_75 : decode cX6_nextToken 75 = .ok (.goto 4, 3) := by decide +kernel
theorem dX6_nextToken_78 : decode cX6_nextToken 78 = .ok (.iconst 0, 1) := by decide +kernel
theorem dX6_nextToken_79 : decode cX6_nextToken 79 = .ok (.istore_n 2, 1) := by decide +kernel
theorem dX6_nextToken_80 : decode cX6_nextToken 80 = .ok (.aload_n 0, 1) := by decide +kernel
theorem dX6_nextToken_81 : decode cX6_nextToken 81 = .ok (.iload_n 2, 1) := by decide +kernel
theorem dX6_nextToken_82 : decode cX6_nextToken 82 = .ok (.ifCond .eq 7, 3) := by decide +kernel
theorem dX6_nextToken_85 : decode cX6_nextToken 85 = .ok (.iload_n 1, 1) := by decide +kernel
theorem dX6_nextToken_86 : decode cX6_nextToken 86 = .ok (.goto 4, 3) := by decide +kernel
theorem dX6_nextToken_89 : decode cX6_nextToken 89 = .ok (.iconst 2, 1) := by decide +kernel
theorem dX6_nextToken_90 : decode cX6_nextToken 90 = .ok (.putfield 36, 3) := by decide +kernel
theorem dX6_nextToken_93 : decode cX6_nextToken 93 = .ok (.aload_n 0, 1) := by decide +kernel
theorem dX6_nextToken_94 : decode cX6_nextToken 94 = .ok (.aload_n 0, 1) := by decide +kernel
theorem dX6_nextToken_95 : decode cX6_nextToken 95 = .ok (.getfield 23, 3) := by decide +kernel
theorem dX6_nextToken_98 : decode cX6_nextToken 98 = .ok (.iconst 1, 1) := by decide +kernel
theorem dX6_nextToken_99 : decode cX6_nextToken 99 = .ok (.iadd, 1) := by decide +kernel
theorem dX6_nextToken_100 : decode cX6_nextToken 100 = .ok (.putfield 26, 3) := by decide +kernel
theorem dX6_nextToken_103 : decode cX6_nextToken 103 = .ok (.return_, 1) := by decide +kernel
theorem dX6_readFigures_0 : decode cX6_readFigures 0 = .ok (.aload_n 0, 1) := by decide +kernel
theorem dX6_readFigures_1 : decode cX6_readFigures 1 = .ok (.getfield 23, 3) := by decide +kernel
theorem dX6_readFigures_4 : decode cX6_readFigures 4 = .ok (.istore_n 1, 1) := by decide +kernel
theorem dX6_readFigures_5 : decode cX6_readFigures 5 = .ok (.aload_n 0, 1) := by decide +kernel
theorem dX6_readFigures_6 : decode cX6_readFigures 6 = .ok (.iconst 0, 1) := by decide +kernel
theorem dX6_readFigures_7 : decode cX6_readFigures 7 = .ok (.putfield 50, 3) := by decide +kernel
theorem dX6_readFigures_10 : decode cX6_readFigures 10 = .ok (.iload_n 1, 1) := by decide +kernel
theorem dX6_readFigures_11 : decode cX6_readFigures 11 = .ok (.aload_n 0, 1) := by decide +kernel
theorem dX6_readFigures_12 : decode cX6_readFigures 12 = .ok (.getfield 23, 3) := by decide +kernel
theorem dX6_readFigures_15 : decode cX6_readFigures 15 = .ok (.iconst 3, 1) := by decide +kernel
theorem dX6_readFigures_16 : decode cX6_readFigures 16 = .ok (.iadd, 1) := by decide +kernel
theorem dX6_readFigures_17 : decode cX6_readFigures 17 = .ok (.if_icmp .ge 40, 3) := by decide +kernel
theorem dX6_readFigures_20 : decode cX6_readFigures 20 = .ok (.aload_n 0, 1) := by decide +kernel
theorem dX6_readFigures_21 : decode cX6_readFigures 21 = .ok (.iload_n 1, 1) := by decide +kernel
theorem dX6_readFigures_22 : decode cX6_readFigures 22 = .ok (.invokevirtual 76, 3) := by decide +kernel
theorem dX6_readFigures_25 : decode cX6_readFigures 25 = .ok (.invokestatic 79, 3) := by decide +kernel
theorem dX6_readFigures_28 : decode cX6_readFigures 28 = .ok (.ifCond .eq 29, 3) := by decide +kernel
theorem dX6_readFigures_31 : decode cX6_readFigures 31 = .ok (.aload_n 0, 1) := by decide +kernel
theorem dX6_readFigures_32 : decode cX6_readFigures 32 = .ok (.aload_n 0, 1) := by decide +kernel
theorem dX6_readFigures_33 : decode cX6_readFigures 33 = .ok (.getfield 50, 3) := by decide +kernel
theorem dX6_readFigures_36 : decode cX6_readFigures 36 = .ok (.bipush 10, 2) := by decide +kernel
theorem dX6_readFigures_38 : decode cX6_readFigures 38 = .ok (.imul, 1) := by decide +kernel
theorem dX6_readFigures_39 : decode cX6_readFigures 39 = .ok (.aload_n 0, 1) := by decide +kernel
theorem dX6_readFigures_40 : decode cX6_readFigures 40 = .ok (.iload_n 1, 1) := by decide +kernel
theorem dX6_readFigures_41 : decode cX6_readFigures 41 = .ok (.invokevirtual 76, 3) := by decide +kernel
theorem dX6_readFigures_44 : decode cX6_readFigures 44 = .ok (.iadd, 1) := by decide +kernel
theorem dX6_readFigures_45 : decode cX6_readFigures 45 = .ok (.bipush 48, 2) := by decide +kernel
theorem dX6_readFigures_47 : decode cX6_readFigures 47 = .ok (.isub, 1) := by decide +kernel
theorem dX6_readFigures_48 : decode cX6_readFigures 48 = .ok (.putfield 50, 3) := by decide +kernel
theorem dX6_readFigures_51 : decode cX6_readFigures 51 = .ok (.iinc 1 1, 3) := by decide +kernel
theorem dX6_readFigures_54 : decode cX6_readFigures 54 = .ok (.goto (-44), 3) := by decide +kernel
theorem dX6_readFigures_57 : decode cX6_readFigures 57 = .ok (.aload_n 0, 1) := by decide +kernel
theorem dX6_readFigures_58 : decode cX6_readFigures 58 = .ok (.iload_n 1, 1) := by decide +kernel
theorem dX6_readFigures_59 : decode cX6_readFigures 59 = .ok (.aload_n 0, 1) := by decide +kernel
theorem dX6_readFigures_60 : decode cX6_readFigures 60 = .ok (.getfield 23, 3) := by decide +kernel
theorem dX6_readFigures_63 : decode cX6_readFigures 63 = .ok (.isub, 1) := by decide +kernel
theorem dX6_readFigures_64 : decode cX6_readFigures 64 = .ok (.iconst 2, 1) := by decide +kernel
theorem dX6_readFigures_65 : decode cX6_readFigures 65 = .ok (.if_icmp .le 7, 3) := by decide +kernel
theorem dX6_readFigures_68 : decode cX6_readFigures 68 = .ok (.iconst 2, 1) := by decide +kernel
theorem dX6_readFigures_69 : decode cX6_readFigures 69 = .ok (.goto 4, 3) := by decide +kernel
theorem dX6_readFigures_72 : decode cX6_readFigures 72 = .ok (.iconst 1, 1) := by decide +kernel
theorem dX6_readFigures_73 : decode cX6_readFigures 73 = .ok (.putfield 36, 3) := by decide +kernel
theorem dX6_readFigures_76 : decode cX6_readFigures 76 = .ok (.aload_n 0, 1) := by decide +kernel
theorem dX6_readFigures_77 : decode cX6_readFigures 77 = .ok (.iload_n 1, 1) := by decide +kernel
theorem dX6_readFigures_78 : decode cX6_readFigures 78 = .ok (.putfield 26, 3) := by decide +kernel
theorem dX6_readFigures_81 : decode cX6_readFigures 81 = .ok (.return_, 1) := by decide +kernel
theorem dX6_byteAt_0 : decode cX6_byteAt 0 = .ok (.iload_n 1, 1) := by decide +kernel
theorem dX6_byteAt_1 : decode cX6_byteAt 1 = .ok (.ifCond .lt 20, 3) := by decide +kernel
theorem dX6_byteAt_4 : decode cX6_byteAt 4 = .ok (.iload_n 1, 1) := by decide +kernel
theorem dX6_byteAt_5 : decode cX6_byteAt 5 = .ok (.aload_n 0, 1) := by decide +kernel
theorem dX6_byteAt_6 : decode cX6_byteAt 6 = .ok (.getfield 15, 3) := by decide +kernel
theorem dX6_byteAt_9 : decode cX6_byteAt 9 = .ok (.if_icmp .ge 12, 3) := by decide +kernel
theorem dX6_byteAt_12 : decode cX6_byteAt 12 = .ok (.aload_n 0, 1) := by decide +kernel
theorem dX6_byteAt_13 : decode cX6_byteAt 13 = .ok (.getfield 11, 3) := by decide +kernel
theorem dX6_byteAt_16 : decode cX6_byteAt 16 = .ok (.iload_n 1, 1) := by decide +kernel
theorem dX6_byteAt_17 : decode cX6_byteAt 17 = .ok (.iaload, 1) := by decide +kernel
theorem dX6_byteAt_18 : decode cX6_byteAt 18 = .ok (.goto 4, 3) := by decide +kernel
theorem dX6_byteAt_21 : decode cX6_byteAt 21 = .ok (.iconst (-1), 1) := by decide +kernel
theorem dX6_byteAt_22 : decode cX6_byteAt 22 = .ok (.ireturn, 1) := by decide +kernel
theorem dX6_isFigure_0 : decode cX6_isFigure 0 = .ok (.iload_n 0, 1) := by decide +kernel
theorem dX6_isFigure_1 : decode cX6_isFigure 1 = .ok (.bipush 48, 2) := by decide +kernel
theorem dX6_isFigure_3 : decode cX6_isFigure 3 = .ok (.if_icmp .lt 13, 3) := by decide +kernel
theorem dX6_isFigure_6 : decode cX6_isFigure 6 = .ok (.iload_n 0, 1) := by decide +kernel
theorem dX6_isFigure_7 : decode cX6_isFigure 7 = .ok (.bipush 57, 2) := by decide +kernel
theorem dX6_isFigure_9 : decode cX6_isFigure 9 = .ok (.if_icmp .gt 7, 3) := by decide +kernel
theorem dX6_isFigure_12 : decode cX6_isFigure 12 = .ok (.iconst 1, 1) := by decide +kernel
theorem dX6_isFigure_13 : decode cX6_isFigure 13 = .ok (.goto 4, 3) := by decide +kernel
theorem dX6_isFigure_16 : decode cX6_isFigure 16 = .ok (.iconst 0, 1) := by decide +kernel
theorem dX6_isFigure_17 : decode cX6_isFigure 17 = .ok (.ireturn, 1) := by decide +kernel
