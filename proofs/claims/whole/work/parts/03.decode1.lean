/-! decode rows -/
theorem dX0_init_0 : decode cX0_init 0 = .ok (.aload_n 0, 1) := by decide +kernel
theorem dX0_init_1 : decode cX0_init 1 = .ok (.invokespecial 1, 3) := by decide +kernel
theorem dX0_init_4 : decode cX0_init 4 = .ok (.aload_n 0, 1) := by decide +kernel
theorem dX0_init_5 : decode cX0_init 5 = .ok (.iconst 4, 1) := by decide +kernel
theorem dX0_init_6 : decode cX0_init 6 = .ok (.anewarray 9, 3) := by decide +kernel
theorem dX0_init_9 : decode cX0_init 9 = .ok (.putfield 11, 3) := by decide +kernel
theorem dX0_init_12 : decode cX0_init 12 = .ok (.iconst 0, 1) := by decide +kernel
theorem dX0_init_13 : decode cX0_init 13 = .ok (.istore_n 1, 1) := by decide +kernel
theorem dX0_init_14 : decode cX0_init 14 = .ok (.iload_n 1, 1) := by decide +kernel
theorem dX0_init_15 : decode cX0_init 15 = .ok (.iconst 4, 1) := by decide +kernel
theorem dX0_init_16 : decode cX0_init 16 = .ok (.if_icmp .ge 22, 3) := by decide +kernel
theorem dX0_init_19 : decode cX0_init 19 = .ok (.aload_n 0, 1) := by decide +kernel
theorem dX0_init_20 : decode cX0_init 20 = .ok (.getfield 11, 3) := by decide +kernel
theorem dX0_init_23 : decode cX0_init 23 = .ok (.iload_n 1, 1) := by decide +kernel
theorem dX0_init_24 : decode cX0_init 24 = .ok (.new 9, 3) := by decide +kernel
theorem dX0_init_27 : decode cX0_init 27 = .ok (.dup, 1) := by decide +kernel
theorem dX0_init_28 : decode cX0_init 28 = .ok (.invokespecial 15, 3) := by decide +kernel
theorem dX0_init_31 : decode cX0_init 31 = .ok (.aastore, 1) := by decide +kernel
theorem dX0_init_32 : decode cX0_init 32 = .ok (.iinc 1 1, 3) := by decide +kernel
theorem dX0_init_35 : decode cX0_init 35 = .ok (.goto (-21), 3) := by decide +kernel
theorem dX0_init_38 : decode cX0_init 38 = .ok (.aload_n 0, 1) := by decide +kernel
theorem dX0_init_39 : decode cX0_init 39 = .ok (.bipush 10, 2) := by decide +kernel
theorem dX0_init_41 : decode cX0_init 41 = .ok (.anewarray 16, 3) := by decide +kernel
theorem dX0_init_44 : decode cX0_init 44 = .ok (.putfield 18, 3) := by decide +kernel
theorem dX0_init_47 : decode cX0_init 47 = .ok (.iconst 0, 1) := by decide +kernel
theorem dX0_init_48 : decode cX0_init 48 = .ok (.istore_n 1, 1) := by decide +kernel
theorem dX0_init_49 : decode cX0_init 49 = .ok (.iload_n 1, 1) := by decide +kernel
theorem dX0_init_50 : decode cX0_init 50 = .ok (.bipush 10, 2) := by decide +kernel
theorem dX0_init_52 : decode cX0_init 52 = .ok (.if_icmp .ge 22, 3) := by decide +kernel
theorem dX0_init_55 : decode cX0_init 55 = .ok (.aload_n 0, 1) := by decide +kernel
theorem dX0_init_56 : decode cX0_init 56 = .ok (.getfield 18, 3) := by decide +kernel
theorem dX0_init_59 : decode cX0_init 59 = .ok (.iload_n 1, 1) := by decide +kernel
theorem dX0_init_60 : decode cX0_init 60 = .ok (.new 16, 3) := by decide +kernel
theorem dX0_init_63 : decode cX0_init 63 = .ok (.dup, 1) := by decide +kernel
theorem dX0_init_64 : decode cX0_init 64 = .ok (.invokespecial 22, 3) := by decide +kernel
theorem dX0_init_67 : decode cX0_init 67 = .ok (.aastore, 1) := by decide +kernel
theorem dX0_init_68 : decode cX0_init 68 = .ok (.iinc 1 1, 3) := by decide +kernel
theorem dX0_init_71 : decode cX0_init 71 = .ok (.goto (-22), 3) := by decide +kernel
theorem dX0_init_74 : decode cX0_init 74 = .ok (.aload_n 0, 1) := by decide +kernel
theorem dX0_init_75 : decode cX0_init 75 = .ok (.new 23, 3) := by decide +kernel
theorem dX0_init_78 : decode cX0_init 78 = .ok (.dup, 1) := by decide +kernel
theorem dX0_init_79 : decode cX0_init 79 = .ok (.invokespecial 25, 3) := by decide +kernel
theorem dX0_init_82 : decode cX0_init 82 = .ok (.putfield 26, 3) := by decide +kernel
theorem dX0_init_85 : decode cX0_init 85 = .ok (.aload_n 0, 1) := by decide +kernel
theorem dX0_init_86 : decode cX0_init 86 = .ok (.iconst 0, 1) := by decide +kernel
theorem dX0_init_87 : decode cX0_init 87 = .ok (.putfield 30, 3) := by decide +kernel
theorem dX0_init_90 : decode cX0_init 90 = .ok (.return_, 1) := by decide +kernel
theorem dX3_init_0 : decode cX3_init 0 = .ok (.aload_n 0, 1) := by decide +kernel
theorem dX3_init_1 : decode cX3_init 1 = .ok (.invokespecial 3, 3) := by decide +kernel
theorem dX3_init_4 : decode cX3_init 4 = .ok (.aload_n 0, 1) := by decide +kernel
theorem dX3_init_5 : decode cX3_init 5 = .ok (.iconst 1, 1) := by decide +kernel
theorem dX3_init_6 : decode cX3_init 6 = .ok (.putfield 9, 3) := by decide +kernel
theorem dX3_init_9 : decode cX3_init 9 = .ok (.aload_n 0, 1) := by decide +kernel
theorem dX3_init_10 : decode cX3_init 10 = .ok (.bipush 10, 2) := by decide +kernel
theorem dX3_init_12 : decode cX3_init 12 = .ok (.newarray .int, 2) := by decide +kernel
theorem dX3_init_14 : decode cX3_init 14 = .ok (.putfield 15, 3) := by decide +kernel
theorem dX3_init_17 : decode cX3_init 17 = .ok (.aload_n 0, 1) := by decide +kernel
theorem dX3_init_18 : decode cX3_init 18 = .ok (.bipush 10, 2) := by decide +kernel
theorem dX3_init_20 : decode cX3_init 20 = .ok (.newarray .int, 2) := by decide +kernel
theorem dX3_init_22 : decode cX3_init 22 = .ok (.putfield 19, 3) := by decide +kernel
theorem dX3_init_25 : decode cX3_init 25 = .ok (.aload_n 0, 1) := by decide +kernel
theorem dX3_init_26 : decode cX3_init 26 = .ok (.new 22, 3) := by decide +kernel
theorem dX3_init_29 : decode cX3_init 29 = .ok (.dup, 1) := by decide +kernel
theorem dX3_init_30 : decode cX3_init 30 = .ok (.invokespecial 24, 3) := by decide +kernel
theorem dX3_init_33 : decode cX3_init 33 = .ok (.putfield 25, 3) := by decide +kernel
theorem dX3_init_36 : decode cX3_init 36 = .ok (.return_, 1) := by decide +kernel
theorem dX1_init_0 : decode cX1_init 0 = .ok (.aload_n 0, 1) := by decide +kernel
theorem dX1_init_1 : decode cX1_init 1 = .ok (.invokespecial 3, 3) := by decide +kernel
theorem dX1_init_4 : decode cX1_init 4 = .ok (.aload_n 0, 1) := by decide +kernel
theorem dX1_init_5 : decode cX1_init 5 = .ok (.bipush 60, 2) := by decide +kernel
theorem dX1_init_7 : decode cX1_init 7 = .ok (.newarray .int, 2) := by decide +kernel
theorem dX1_init_9 : decode cX1_init 9 = .ok (.putfield 9, 3) := by decide +kernel
theorem dX1_init_12 : decode cX1_init 12 = .ok (.aload_n 0, 1) := by decide +kernel
theorem dX1_init_13 : decode cX1_init 13 = .ok (.bipush 60, 2) := by decide +kernel
theorem dX1_init_15 : decode cX1_init 15 = .ok (.newarray .int, 2) := by decide +kernel
theorem dX1_init_17 : decode cX1_init 17 = .ok (.putfield 15, 3) := by decide +kernel
theorem dX1_init_20 : decode cX1_init 20 = .ok (.return_, 1) := by decide +kernel
theorem dX4_init_0 : decode cX4_init 0 = .ok (.aload_n 0, 1) := by decide +kernel
theorem dX4_init_1 : decode cX4_init 1 = .ok (.invokespecial 3, 3) := by decide +kernel
theorem dX4_init_4 : decode cX4_init 4 = .ok (.return_, 1) := by decide +kernel
theorem dX2_init_0 : decode cX2_init 0 = .ok (.aload_n 0, 1) := by decide +kernel
theorem dX2_init_1 : decode cX2_init 1 = .ok (.invokespecial 3, 3) := by decide +kernel
theorem dX2_init_4 : decode cX2_init 4 = .ok (.aload_n 0, 1) := by decide +kernel
theorem dX2_init_5 : decode cX2_init 5 = .ok (.iconst 4, 1) := by decide +kernel
theorem dX2_init_6 : decode cX2_init 6 = .ok (.bipush 40, 2) := by decide +kernel
theorem dX2_init_8 : decode cX2_init 8 = .ok (.multianewarray 9 2, 4) := by decide +kernel
theorem dX2_init_12 : decode cX2_init 12 = .ok (.putfield 11, 3) := by decide +kernel
theorem dX2_init_15 : decode cX2_init 15 = .ok (.return_, 1) := by decide +kernel
theorem dX0_begin_0 : decode cX0_begin 0 = .ok (.iload_n 1, 1) := by decide +kernel
theorem dX0_begin_1 : decode cX0_begin 1 = .ok (.invokestatic 34, 3) := by decide +kernel
theorem dX0_begin_4 : decode cX0_begin 4 = .ok (.ifCond .ne 6, 3) := by decide +kernel
theorem dX0_begin_7 : decode cX0_begin 7 = .ok (.bipush (-2), 2) := by decide +kernel
theorem dX0_begin_9 : decode cX0_begin 9 = .ok (.ireturn, 1) := by decide +kernel
theorem dX0_begin_10 : decode cX0_begin 10 = .ok (.aload_n 0, 1) := by decide +kernel
theorem dX0_begin_11 : decode cX0_begin 11 = .ok (.getfield 11, 3) := by decide +kernel
theorem dX0_begin_14 : decode cX0_begin 14 = .ok (.iload_n 1, 1) := by decide +kernel
theorem dX0_begin_15 : decode cX0_begin 15 = .ok (.aaload, 1) := by decide +kernel
theorem dX0_begin_16 : decode cX0_begin 16 = .ok (.getfield 38, 3) := by decide +kernel
theorem dX0_begin_19 : decode cX0_begin 19 = .ok (.ifCond .ne 6, 3) := by decide +kernel
theorem dX0_begin_22 : decode cX0_begin 22 = .ok (.bipush (-3), 2) := by decide +kernel
theorem dX0_begin_24 : decode cX0_begin 24 = .ok (.ireturn, 1) := by decide +kernel
theorem dX0_begin_25 : decode cX0_begin 25 = .ok (.aload_n 0, 1) := by decide +kernel
theorem dX0_begin_26 : decode cX0_begin 26 = .ok (.getfield 30, 3) := by decide +kernel
theorem dX0_begin_29 : decode cX0_begin 29 = .ok (.bipush 10, 2) := by decide +kernel
theorem dX0_begin_31 : decode cX0_begin 31 = .ok (.if_icmp .lt 6, 3) := by decide +kernel
theorem dX0_begin_34 : decode cX0_begin 34 = .ok (.bipush (-5), 2) := by decide +kernel
theorem dX0_begin_36 : decode cX0_begin 36 = .ok (.ireturn, 1) := by decide +kernel
theorem dX0_begin_37 : decode cX0_begin 37 = .ok (.aload_n 0, 1) := by decide +kernel
theorem dX0_begin_38 : decode cX0_begin 38 = .ok (.getfield 30, 3) := by decide +kernel
theorem dX0_begin_41 : decode cX0_begin 41 = .ok (.istore_n 2, 1) := by decide +kernel
theorem dX0_begin_42 : decode cX0_begin 42 = .ok (.aload_n 0, 1) := by decide +kernel
theorem dX0_begin_43 : decode cX0_begin 43 = .ok (.dup, 1) := by decide +kernel
theorem dX0_begin_44 : decode cX0_begin 44 = .ok (.getfield 30, 3) := by decide +kernel
theorem dX0_begin_47 : decode cX0_begin 47 = .ok (.iconst 1, 1) := by decide +kernel
theorem dX0_begin_48 : decode cX0_begin 48 = .ok (.iadd, 1) := by decide +kernel
theorem dX0_begin_49 : decode cX0_begin 49 = .ok (.putfield 30, 3) := by decide +kernel
theorem dX0_begin_52 : decode cX0_begin 52 = .ok (.aload_n 0, 1) := by decide +kernel
theorem dX0_begin_53 : decode cX0_begin 53 = .ok (.getfield 18, 3) := by decide +kernel
theorem dX0_begin_56 : decode cX0_begin 56 = .ok (.iload_n 2, 1) := by decide +kernel
theorem dX0_begin_57 : decode cX0_begin 57 = .ok (.aaload, 1) := by decide +kernel
theorem dX0_begin_58 : decode cX0_begin 58 = .ok (.iload_n 1, 1) := by decide +kernel
theorem dX0_begin_59 : decode cX0_begin 59 = .ok (.putfield 42, 3) := by decide +kernel
theorem dX0_begin_62 : decode cX0_begin 62 = .ok (.aload_n 0, 1) := by decide +kernel
theorem dX0_begin_63 : decode cX0_begin 63 = .ok (.getfield 18, 3) := by decide +kernel
theorem dX0_begin_66 : decode cX0_begin 66 = .ok (.iload_n 2, 1) := by decide +kernel
theorem dX0_begin_67 : decode cX0_begin 67 = .ok (.aaload, 1) := by decide +kernel
theorem dX0_begin_68 : decode cX0_begin 68 = .ok (.iconst 1, 1) := by decide +kernel
theorem dX0_begin_69 : decode cX0_begin 69 = .ok (.putfield 45, 3) := by decide +kernel
theorem dX0_begin_72 : decode cX0_begin 72 = .ok (.iload_n 2, 1) := by decide +kernel
theorem dX0_begin_73 : decode cX0_begin 73 = .ok (.ireturn, 1) := by decide +kernel
theorem dX0_isNode_0 : decode cX0_isNode 0 = .ok (.iload_n 0, 1) := by decide +kernel
theorem dX0_isNode_1 : decode cX0_isNode 1 = .ok (.ifCond .lt 12, 3) := by decide +kernel
theorem dX0_isNode_4 : decode cX0_isNode 4 = .ok (.iload_n 0, 1) := by decide +kernel
theorem dX0_isNode_5 : decode cX0_isNode 5 = .ok (.iconst 4, 1) := by decide +kernel
theorem dX0_isNode_6 : decode cX0_isNode 6 = .ok (.if_icmp .ge 7, 3) := by decide +kernel
theorem dX0_isNode_9 : decode cX0_isNode 9 = .ok (.iconst 1, 1) := by decide +kernel
theorem dX0_isNode_10 : decode cX0_isNode 10 = .ok (.goto 4, 3) := by decide +kernel
theorem dX0_isNode_13 : decode cX0_isNode 13 = .ok (.iconst 0, 1) := by decide +kernel
theorem dX0_isNode_14 : decode cX0_isNode 14 = .ok (.ireturn, 1) := by decide +kernel
theorem dX0_work_0 : decode cX0_work 0 = .ok (.aload_n 0, 1) := by decide +kernel
theorem dX0_work_1 : decode cX0_work 1 = .ok (.iload_n 1, 1) := by decide +kernel
theorem dX0_work_2 : decode cX0_work 2 = .ok (.invokevirtual 48, 3) := by decide +kernel
theorem dX0_work_5 : decode cX0_work 5 = .ok (.ifCond .eq 22, 3) := by decide +kernel
theorem dX0_work_8 : decode cX0_work 8 = .ok (.iload_n 2, 1) := by decide +kernel
theorem dX0_work_9 : decode cX0_work 9 = .ok (.invokestatic 34, 3) := by decide +kernel
theorem dX0_work_12 : decode cX0_work 12 = .ok (.ifCond .eq 15, 3) := by decide +kernel
theorem dX0_work_15 : decode cX0_work 15 = .ok (.iload_n 3, 1) := by decide +kernel
theorem dX0_work_16 : decode cX0_work 16 = .ok (.iconst (-1), 1) := by decide +kernel
theorem dX0_work_17 : decode cX0_work 17 = .ok (.if_icmp .eq 13, 3) := by decide +kernel
theorem dX0_work_20 : decode cX0_work 20 = .ok (.iload_n 3, 1) := by decide +kernel
theorem dX0_work_21 : decode cX0_work 21 = .ok (.invokestatic 51, 3) := by decide +kernel
theorem dX0_work_24 : decode cX0_work 24 = .ok (.ifCond .ne 6, 3) := by decide +kernel
theorem dX0_work_27 : decode cX0_work 27 = .ok (.bipush (-2), 2) := by decide +kernel
theorem dX0_work_29 : decode cX0_work 29 = .ok (.ireturn, 1) := by decide +kernel
theorem dX0_work_30 : decode cX0_work 30 = .ok (.aload_n 0, 1) := by decide +kernel
theorem dX0_work_31 : decode cX0_work 31 = .ok (.getfield 11, 3) := by decide +kernel
theorem dX0_work_34 : decode cX0_work 34 = .ok (.iload_n 2, 1) := by decide +kernel
theorem dX0_work_35 : decode cX0_work 35 = .ok (.aaload, 1) := by decide +kernel
theorem dX0_work_36 : decode cX0_work 36 = .ok (.astore 4, 2) := by decide +kernel
theorem dX0_work_38 : decode cX0_work 38 = .ok (.aload_n 0, 1) := by decide +kernel
theorem dX0_work_39 : decode cX0_work 39 = .ok (.getfield 18, 3) := by decide +kernel
theorem dX0_work_42 : decode cX0_work 42 = .ok (.iload_n 1, 1) := by decide +kernel
theorem dX0_work_43 : decode cX0_work 43 = .ok (.aaload, 1) := by decide +kernel
theorem dX0_work_44 : decode cX0_work 44 = .ok (.astore 5, 2) := by decide +kernel
theorem dX0_work_46 : decode cX0_work 46 = .ok (.aload 4, 2) := by decide +kernel
theorem dX0_work_48 : decode cX0_work 48 = .ok (.getfield 38, 3) := by decide +kernel
theorem dX0_work_51 : decode cX0_work 51 = .ok (.ifCond .eq 19, 3) := by decide +kernel
theorem dX0_work_54 : decode cX0_work 54 = .ok (.aload_n 0, 1) := by decide +kernel
theorem dX0_work_55 : decode cX0_work 55 = .ok (.getfield 11, 3) := by decide +kernel
theorem dX0_work_58 : decode cX0_work 58 = .ok (.aload 5, 2) := by decide +kernel
theorem dX0_work_60 : decode cX0_work 60 = .ok (.getfield 42, 3) := by decide +kernel
theorem dX0_work_63 : decode cX0_work 63 = .ok (.aaload, 1) := by decide +kernel
theorem dX0_work_64 : decode cX0_work 64 = .ok (.getfield 38, 3) := by decide +kernel
theorem dX0_work_67 : decode cX0_work 67 = .ok (.ifCond .ne 6, 3) := by decide +kernel
theorem dX0_work_70 : decode cX0_work 70 = .ok (.bipush (-3), 2) := by decide +kernel
theorem dX0_work_72 : decode cX0_work 72 = .ok (.ireturn, 1) := by decide +kernel
theorem dX0_work_73 : decode cX0_work 73 = .ok (.aload 5, 2) := by decide +kernel
theorem dX0_work_75 : decode cX0_work 75 = .ok (.getfield 54, 3) := by decide +kernel
theorem dX0_work_78 : decode cX0_work 78 = .ok (.iload_n 2, 1) := by decide +kernel
theorem dX0_work_79 : decode cX0_work 79 = .ok (.invokestatic 57, 3) := by decide +kernel
theorem dX0_work_82 : decode cX0_work 82 = .ok (.istore 6, 2) := by decide +kernel
theorem dX0_work_84 : decode cX0_work 84 = .ok (.aload 5, 2) := by decide +kernel
theorem dX0_work_86 : decode cX0_work 86 = .ok (.getfield 45, 3) := by decide +kernel
theorem dX0_work_89 : decode cX0_work 89 = .ok (.iconst 1, 1) := by decide +kernel
theorem dX0_work_90 : decode cX0_work 90 = .ok (.if_icmp .ne 18, 3) := by decide +kernel
theorem dX0_work_93 : decode cX0_work 93 = .ok (.iload 6, 2) := by decide +kernel
theorem dX0_work_95 : decode cX0_work 95 = .ok (.ifCond .eq 16, 3) := by decide +kernel
theorem dX0_work_98 : decode cX0_work 98 = .ok (.aload 4, 2) := by decide +kernel
theorem dX0_work_100 : decode cX0_work 100 = .ok (.getfield 61, 3) := by decide +kernel
theorem dX0_work_103 : decode cX0_work 103 = .ok (.iload_n 1, 1) := by decide +kernel
theorem dX0_work_104 : decode cX0_work 104 = .ok (.iaload, 1) := by decide +kernel
theorem dX0_work_105 : decode cX0_work 105 = .ok (.ifCond .ne 6, 3) := by decide +kernel
theorem dX0_work_108 : decode cX0_work 108 = .ok (.bipush (-4), 2) := by decide +kernel
theorem dX0_work_110 : decode cX0_work 110 = .ok (.ireturn, 1) := by decide +kernel
theorem dX0_work_111 : decode cX0_work 111 = .ok (.iload 6, 2) := by decide +kernel
theorem dX0_work_113 : decode cX0_work 113 = .ok (.ifCond .ne 25, 3) := by decide +kernel
theorem dX0_work_116 : decode cX0_work 116 = .ok (.aload 5, 2) := by decide +kernel
theorem dX0_work_118 : decode cX0_work 118 = .ok (.dup, 1) := by decide +kernel
theorem dX0_work_119 : decode cX0_work 119 = .ok (.getfield 54, 3) := by decide +kernel
theorem dX0_work_122 : decode cX0_work 122 = .ok (.iload_n 2, 1) := by decide +kernel
theorem dX0_work_123 : decode cX0_work 123 = .ok (.invokestatic 65, 3) := by decide +kernel
theorem dX0_work_126 : decode cX0_work 126 = .ok (.ior, 1) := by decide +kernel
theorem dX0_work_127 : decode cX0_work 127 = .ok (.putfield 54, 3) := by decide +kernel
theorem dX0_work_130 : decode cX0_work 130 = .ok (.aload 4, 2) := by decide +kernel
theorem dX0_work_132 : decode cX0_work 132 = .ok (.getfield 61, 3) := by decide +kernel
theorem dX0_work_135 : decode cX0_work 135 = .ok (.iload_n 1, 1) := by decide +kernel
theorem dX0_work_136 : decode cX0_work 136 = .ok (.iconst 1, 1) := by decide +kernel
theorem dX0_work_137 : decode cX0_work 137 = .ok (.iastore, 1) := by decide +kernel
theorem dX0_work_138 : decode cX0_work 138 = .ok (.aload 4, 2) := by decide +kernel
theorem dX0_work_140 : decode cX0_work 140 = .ok (.iload_n 1, 1) := by decide +kernel
theorem dX0_work_141 : decode cX0_work 141 = .ok (.iload_n 3, 1) := by decide +kernel
theorem dX0_work_142 : decode cX0_work 142 = .ok (.invokevirtual 69, 3) := by decide +kernel
theorem dX0_work_145 : decode cX0_work 145 = .ok (.ifCond .eq 7, 3) := by decide +kernel
theorem dX0_work_148 : decode cX0_work 148 = .ok (.iconst 1, 1) := by decide +kernel
theorem dX0_work_149 : decode cX0_work 149 = .ok (.goto 4, 3) := by decide +kernel
theorem dX0_work_152 : decode cX0_work 152 = .ok (.iconst 0, 1) := by decide +kernel
theorem dX0_work_153 : decode cX0_work 153 = .ok (.ireturn, 1) := by decide +kernel
theorem dX0_isTransaction_0 : decode cX0_isTransaction 0 = .ok (.iload_n 1, 1) := by decide +kernel
theorem dX0_isTransaction_1 : decode cX0_isTransaction 1 = .ok (.ifCond .lt 15, 3) := by decide +kernel
theorem dX0_isTransaction_4 : decode cX0_isTransaction 4 = .ok (.iload_n 1, 1) := by decide +kernel
theorem dX0_isTransaction_5 : decode cX0_isTransaction 5 = .ok (.aload_n 0, 1) := by decide +kernel
theorem dX0_isTransaction_6 : decode cX0_isTransaction 6 = .ok (.getfield 30, 3) := by decide +kernel
theorem dX0_isTransaction_9 : decode cX0_isTransaction 9 = .ok (.if_icmp .ge 7, 3) := by decide +kernel
theorem dX0_isTransaction_12 : decode cX0_isTransaction 12 = .ok (.iconst 1, 1) := by decide +kernel
theorem dX0_isTransaction_13 : decode cX0_isTransaction 13 = .ok (.goto 4, 3) := by decide +kernel
theorem dX0_isTransaction_16 : decode cX0_isTransaction 16 = .ok (.iconst 0, 1) := by decide +kernel
theorem dX0_isTransaction_17 : decode cX0_isTransaction 17 = .ok (.ireturn, 1) := by decide +kernel
theorem dX0_isResource_0 : decode cX0_isResource 0 = .ok (.iload_n 0, 1) := by decide +kernel
theorem dX0_isResource_1 : decode cX0_isResource 1 = .ok (.ifCond .lt 13, 3) := by decide +kernel
theorem dX0_isResource_4 : decode cX0_isResource 4 = .ok (.iload_n 0, 1) := by decide +kernel
theorem dX0_isResource_5 : decode cX0_isResource 5 = .ok (.bipush 8, 2) := by decide +kernel
theorem dX0_isResource_7 : decode cX0_isResource 7 = .ok (.if_icmp .ge 7, 3) := by decide +kernel
theorem dX0_isResource_10 : decode cX0_isResource 10 = .ok (.iconst 1, 1) := by decide +kernel
theorem dX0_isResource_11 : decode cX0_isResource 11 = .ok (.goto 4, 3) := by decide +kernel
theorem dX0_isResource_14 : decode cX0_isResource 14 = .ok (.iconst 0, 1) := by decide +kernel
theorem dX0_isResource_15 : decode cX0_isResource 15 = .ok (.ireturn, 1) := by decide +kernel
theorem dX0_isIn_0 : decode cX0_isIn 0 = .ok (.iload_n 0, 1) := by decide +kernel
theorem dX0_isIn_1 : decode cX0_isIn 1 = .ok (.iload_n 1, 1) := by decide +kernel
theorem dX0_isIn_2 : decode cX0_isIn 2 = .ok (.invokestatic 65, 3) := by decide +kernel
theorem dX0_isIn_5 : decode cX0_isIn 5 = .ok (.iand, 1) := by decide +kernel
theorem dX0_isIn_6 : decode cX0_isIn 6 = .ok (.ifCond .eq 7, 3) := by decide +kernel
theorem dX0_isIn_9 : decode cX0_isIn 9 = .ok (.iconst 1, 1) := by decide +kernel
theorem dX0_isIn_10 : decode cX0_isIn 10 = .ok (.goto 4, 3) := by decide +kernel
theorem dX0_isIn_13 : decode cX0_isIn 13 = .ok (.iconst 0, 1) := by decide +kernel
theorem dX0_isIn_14 : decode cX0_isIn 14 = .ok (.ireturn, 1) := by decide +kernel
theorem dX0_only_0 : decode cX0_only 0 = .ok (.iconst 1, 1) := by decide +kernel
theorem dX0_only_1 : decode cX0_only 1 = .ok (.iload_n 0, 1) := by decide +kernel
theorem dX0_only_2 : decode cX0_only 2 = .ok (.ishl, 1) := by decide +kernel
theorem dX0_only_3 : decode cX0_only 3 = .ok (.ireturn, 1) := by decide +kernel
theorem dX3_grant_0 : decode cX3_grant 0 = .ok (.aload_n 0, 1) := by decide +kernel
theorem dX3_grant_1 : decode cX3_grant 1 = .ok (.getfield 15, 3) := by decide +kernel
theorem dX3_grant_4 : decode cX3_grant 4 = .ok (.iload_n 1, 1) := by decide +kernel
theorem dX3_grant_5 : decode cX3_grant 5 = .ok (.iaload, 1) := by decide +kernel
theorem dX3_grant_6 : decode cX3_grant 6 = .ok (.iconst 2, 1) := by decide +kernel
theorem dX3_grant_7 : decode cX3_grant 7 = .ok (.if_icmp .ne 5, 3) := by decide +kernel
theorem dX3_grant_10 : decode cX3_grant 10 = .ok (.iconst 0, 1) := by decide +kernel
theorem dX3_grant_11 : decode cX3_grant 11 = .ok (.ireturn, 1) := by decide +kernel
theorem dX3_grant_12 : decode cX3_grant 12 = .ok (.iload_n 2, 1) := by decide +kernel
theorem dX3_grant_13 : decode cX3_grant 13 = .ok (.iconst (-1), 1) := by decide +kernel
theorem dX3_grant_14 : decode cX3_grant 14 = .ok (.if_icmp .ne 5, 3) := by decide +kernel
theorem dX3_grant_17 : decode cX3_grant 17 = .ok (.iconst 1, 1) := by decide +kernel
theorem dX3_grant_18 : decode cX3_grant 18 = .ok (.ireturn, 1) := by decide +kernel
theorem dX3_grant_19 : decode cX3_grant 19 = .ok (.aload_n 0, 1) := by decide +kernel
theorem dX3_grant_20 : decode cX3_grant 20 = .ok (.iload_n 2, 1) := by decide +kernel
theorem dX3_grant_21 : decode cX3_grant 21 = .ok (.invokevirtual 33, 3) := by decide +kernel
theorem dX3_grant_24 : decode cX3_grant 24 = .ok (.istore_n 3, 1) := by decide +kernel
theorem dX3_grant_25 : decode cX3_grant 25 = .ok (.iload_n 3, 1) := by decide +kernel
theorem dX3_grant_26 : decode cX3_grant 26 = .ok (.iconst (-1), 1) := by decide +kernel
theorem dX3_grant_27 : decode cX3_grant 27 = .ok (.if_icmp .eq 17, 3) := by decide +kernel
theorem dX3_grant_30 : decode cX3_grant 30 = .ok (.iload_n 3, 1) := by decide +kernel
theorem dX3_grant_31 : decode cX3_grant 31 = .ok (.iload_n 1, 1) := by decide +kernel
theorem dX3_grant_32 : decode cX3_grant 32 = .ok (.if_icmp .eq 12, 3) := by decide +kernel
theorem dX3_grant_35 : decode cX3_grant 35 = .ok (.aload_n 0, 1) := by decide +kernel
theorem dX3_grant_36 : decode cX3_grant 36 = .ok (.getfield 15, 3) := by decide +kernel
theorem dX3_grant_39 : decode cX3_grant 39 = .ok (.iload_n 1, 1) := by decide +kernel
theorem dX3_grant_40 : decode cX3_grant 40 = .ok (.iconst 2, 1) := by decide +kernel
theorem dX3_grant_41 : decode cX3_grant 41 = .ok (.iastore, 1) := by decide +kernel
theorem dX3_grant_42 : decode cX3_grant 42 = .ok (.iconst 0, 1) := by decide +kernel
theorem dX3_grant_43 : decode cX3_grant 43 = .ok (.ireturn, 1) := by decide +kernel
theorem dX3_grant_44 : decode cX3_grant 44 = .ok (.aload_n 0, 1) := by decide +kernel
theorem dX3_grant_45 : decode cX3_grant 45 = .ok (.getfield 19, 3) := by decide +kernel
theorem dX3_grant_48 : decode cX3_grant 48 = .ok (.iload_n 1, 1) := by decide +kernel
theorem dX3_grant_49 : decode cX3_grant 49 = .ok (.dup2, 1) := by decide +kernel
theorem dX3_grant_50 : decode cX3_grant 50 = .ok (.iaload, 1) := by decide +kernel
theorem dX3_grant_51 : decode cX3_grant 51 = .ok (.iload_n 2, 1) := by decide +kernel
theorem dX3_grant_52 : decode cX3_grant 52 = .ok (.invokestatic 37, 3) := by decide +kernel
theorem dX3_grant_55 : decode cX3_grant 55 = .ok (.ior, 1) := by decide +kernel
theorem dX3_grant_56 : decode cX3_grant 56 = .ok (.iastore, 1) := by decide +kernel
theorem dX3_grant_57 : decode cX3_grant 57 = .ok (.iconst 1, 1) := by decide +kernel
theorem dX3_grant_58 : decode cX3_grant 58 = .ok (.ireturn, 1) := by decide +kernel
theorem dX3_findOwner_0 : decode cX3_findOwner 0 = .ok (.iconst 0, 1) := by decide +kernel
theorem dX3_findOwner_1 : decode cX3_findOwner 1 = .ok (.istore_n 2, 1) := by decide +kernel
theorem dX3_findOwner_2 : decode cX3_findOwner 2 = .ok (.iload_n 2, 1) := by decide +kernel
theorem dX3_findOwner_3 : decode cX3_findOwner 3 = .ok (.bipush 10, 2) := by decide +kernel
theorem dX3_findOwner_5 : decode cX3_findOwner 5 = .ok (.if_icmp .ge 24, 3) := by decide +kernel
theorem dX3_findOwner_8 : decode cX3_findOwner 8 = .ok (.aload_n 0, 1) := by decide +kernel
theorem dX3_findOwner_9 : decode cX3_findOwner 9 = .ok (.getfield 19, 3) := by decide +kernel
theorem dX3_findOwner_12 : decode cX3_findOwner 12 = .ok (.iload_n 2, 1) := by decide +kernel
theorem dX3_findOwner_13 : decode cX3_findOwner 13 = .ok (.iaload, 1) := by decide +kernel
theorem dX3_findOwner_14 : decode cX3_findOwner 14 = .ok (.iload_n 1, 1) := by decide +kernel
theorem dX3_findOwner_15 : decode cX3_findOwner 15 = .ok (.invokestatic 29, 3) := by decide +kernel
theorem dX3_findOwner_18 : decode cX3_findOwner 18 = .ok (.ifCond .eq 5, 3) := by decide +kernel
theorem dX3_findOwner_21 : decode cX3_findOwner 21 = .ok (.iload_n 2, 1) := by decide +kernel
theorem dX3_findOwner_22 : decode cX3_findOwner 22 = .ok (.ireturn, 1) := by decide +kernel
theorem dX3_findOwner_23 : decode cX3_findOwner 23 = .ok (.iinc 2 1, 3) := by decide +kernel
theorem dX3_findOwner_26 : decode cX3_findOwner 26 = .ok (.goto (-24), 3) := by decide +kernel
theorem dX3_findOwner_29 : decode cX3_findOwner 29 = .ok (.iconst (-1), 1) := by decide +kernel
theorem dX3_findOwner_30 : decode cX3_findOwner 30 = .ok (.ireturn, 1) := by decide +kernel
theorem dX0_commit_0 : decode cX0_commit 0 = .ok (.aload_n 0, 1) := by decide +kernel
theorem dX0_commit_1 : decode cX0_commit 1 = .ok (.iload_n 1, 1) := by decide +kernel
theorem dX0_commit_2 : decode cX0_commit 2 = .ok (.invokevirtual 48, 3) := by decide +kernel
theorem dX0_commit_5 : decode cX0_commit 5 = .ok (.ifCond .ne 6, 3) := by decide +kernel
theorem dX0_commit_8 : decode cX0_commit 8 = .ok (.bipush (-2), 2) := by decide +kernel
theorem dX0_commit_10 : decode cX0_commit 10 = .ok (.ireturn, 1) := by decide +kernel
theorem dX0_commit_11 : decode cX0_commit 11 = .ok (.aload_n 0, 1) := by decide +kernel
theorem dX0_commit_12 : decode cX0_commit 12 = .ok (.getfield 18, 3) := by decide +kernel
theorem dX0_commit_15 : decode cX0_commit 15 = .ok (.iload_n 1, 1) := by decide +kernel
theorem dX0_commit_16 : decode cX0_commit 16 = .ok (.aaload, 1) := by decide +kernel
theorem dX0_commit_17 : decode cX0_commit 17 = .ok (.astore_n 2, 1) := by decide +kernel
theorem dX0_commit_18 : decode cX0_commit 18 = .ok (.aload_n 0, 1) := by decide +kernel
theorem dX0_commit_19 : decode cX0_commit 19 = .ok (.getfield 11, 3) := by decide +kernel
theorem dX0_commit_22 : decode cX0_commit 22 = .ok (.aload_n 2, 1) := by decide +kernel
theorem dX0_commit_23 : decode cX0_commit 23 = .ok (.getfield 42, 3) := by decide +kernel
theorem dX0_commit_26 : decode cX0_commit 26 = .ok (.aaload, 1) := by decide +kernel
theorem dX0_commit_27 : decode cX0_commit 27 = .ok (.getfield 38, 3) := by decide +kernel
theorem dX0_commit_30 : decode cX0_commit 30 = .ok (.ifCond .ne 6, 3) := by decide +kernel
theorem dX0_commit_33 : decode cX0_commit 33 = .ok (.bipush (-3), 2) := by decide +kernel
theorem dX0_commit_35 : decode cX0_commit 35 = .ok (.ireturn, 1) := by decide +kernel
theorem dX0_commit_36 : decode cX0_commit 36 = .ok (.aload_n 2, 1) := by decide +kernel
theorem dX0_commit_37 : decode cX0_commit 37 = .ok (.getfield 45, 3) := by decide +kernel
theorem dX0_commit_40 : decode cX0_commit 40 = .ok (.iconst 1, 1) := by decide +kernel
theorem dX0_commit_41 : decode cX0_commit 41 = .ok (.if_icmp .eq 6, 3) := by decide +kernel
theorem dX0_commit_44 : decode cX0_commit 44 = .ok (.bipush (-4), 2) := by decide +kernel
theorem dX0_commit_46 : decode cX0_commit 46 = .ok (.ireturn, 1) := by decide +kernel
theorem dX0_commit_47 : decode cX0_commit 47 = .ok (.aload_n 2, 1) := by decide +kernel
theorem dX0_commit_48 : decode cX0_commit 48 = .ok (.getfield 54, 3) := by decide +kernel
theorem dX0_commit_51 : decode cX0_commit 51 = .ok (.ifCond .ne 9, 3) := by decide +kernel
theorem dX0_commit_54 : decode cX0_commit 54 = .ok (.aload_n 2, 1) := by decide +kernel
theorem dX0_commit_55 : decode cX0_commit 55 = .ok (.invokevirtual 72, 3) := by decide +kernel
theorem dX0_commit_58 : decode cX0_commit 58 = .ok (.iconst 0, 1) := by decide +kernel
theorem dX0_commit_59 : decode cX0_commit 59 = .ok (.ireturn, 1) := by decide +kernel
theorem dX0_commit_60 : decode cX0_commit 60 = .ok (.aload_n 2, 1) := by decide +kernel
theorem dX0_commit_61 : decode cX0_commit 61 = .ok (.iconst 2, 1) := by decide +kernel
theorem dX0_commit_62 : decode cX0_commit 62 = .ok (.putfield 45, 3) := by decide +kernel
theorem dX0_commit_65 : decode cX0_commit 65 = .ok (.aload_n 0, 1) := by decide +kernel
theorem dX0_commit_66 : decode cX0_commit 66 = .ok (.getfield 26, 3) := by decide +kernel
theorem dX0_commit_69 : decode cX0_commit 69 = .ok (.iconst 1, 1) := by decide +kernel
theorem dX0_commit_70 : decode cX0_commit 70 = .ok (.aload_n 2, 1) := by decide +kernel
theorem dX0_commit_71 : decode cX0_commit 71 = .ok (.getfield 42, 3) := by decide +kernel
theorem dX0_commit_74 : decode cX0_commit 74 = .ok (.aload_n 2, 1) := by decide +kernel
theorem dX0_commit_75 : decode cX0_commit 75 = .ok (.getfield 54, 3) := by decide +kernel
theorem dX0_commit_78 : decode cX0_commit 78 = .ok (.iload_n 1, 1) := by decide +kernel
theorem dX0_commit_79 : decode cX0_commit 79 = .ok (.invokevirtual 75, 3) := by decide +kernel
theorem dX0_commit_82 : decode cX0_commit 82 = .ok (.aload_n 2, 1) := by decide +kernel
theorem dX0_commit_83 : decode cX0_commit 83 = .ok (.getfield 54, 3) := by decide +kernel
theorem dX0_commit_86 : decode cX0_commit 86 = .ok (.invokestatic 79, 3) := by decide +kernel
theorem dX0_commit_89 : decode cX0_commit 89 = .ok (.ireturn, 1) := by decide +kernel
theorem dX4_forget_0 : decode cX4_forget 0 = .ok (.aload_n 0, 1) := by decide +kernel
theorem dX4_forget_1 : decode cX4_forget 1 = .ok (.iconst 0, 1) := by decide +kernel
theorem dX4_forget_2 : decode cX4_forget 2 = .ok (.putfield 21, 3) := by decide +kernel
theorem dX4_forget_5 : decode cX4_forget 5 = .ok (.aload_n 0, 1) := by decide +kernel
theorem dX4_forget_6 : decode cX4_forget 6 = .ok (.iconst 0, 1) := by decide +kernel
theorem dX4_forget_7 : decode cX4_forget 7 = .ok (.putfield 9, 3) := by decide +kernel
theorem dX4_forget_10 : decode cX4_forget 10 = .ok (.aload_n 0, 1) := by decide +kernel
theorem dX4_forget_11 : decode cX4_forget 11 = .ok (.iconst 0, 1) := by decide +kernel
theorem dX4_forget_12 : decode cX4_forget 12 = .ok (.putfield 15, 3) := by decide +kernel
theorem dX4_forget_15 : decode cX4_forget 15 = .ok (.aload_n 0, 1) := by decide +kernel
theorem dX4_forget_16 : decode cX4_forget 16 = .ok (.iconst 0, 1) := by decide +kernel
theorem dX4_forget_17 : decode cX4_forget 17 = .ok (.putfield 18, 3) := by decide +kernel
theorem dX4_forget_20 : decode cX4_forget 20 = .ok (.aload_n 0, 1) := by decide +kernel
theorem dX4_forget_21 : decode cX4_forget 21 = .ok (.iconst 0, 1) := by decide +kernel
theorem dX4_forget_22 : decode cX4_forget 22 = .ok (.putfield 24, 3) := by decide +kernel
theorem dX4_forget_25 : decode cX4_forget 25 = .ok (.return_, 1) := by decide +kernel
theorem dX2_sendToEach_0 : decode cX2_sendToEach 0 = .ok (.iconst 0, 1) := by decide +kernel
theorem dX2_sendToEach_1 : decode cX2_sendToEach 1 = .ok (.istore 5, 2) := by decide +kernel
theorem dX2_sendToEach_3 : decode cX2_sendToEach 3 = .ok (.iload 5, 2) := by decide +kernel
theorem dX2_sendToEach_5 : decode cX2_sendToEach 5 = .ok (.iconst 4, 1) := by decide +kernel
theorem dX2_sendToEach_6 : decode cX2_sendToEach 6 = .ok (.if_icmp .ge 28, 3) := by decide +kernel
theorem dX2_sendToEach_9 : decode cX2_sendToEach 9 = .ok (.iload_n 3, 1) := by decide +kernel
theorem dX2_sendToEach_10 : decode cX2_sendToEach 10 = .ok (.iload 5, 2) := by decide +kernel
theorem dX2_sendToEach_12 : decode cX2_sendToEach 12 = .ok (.invokestatic 20, 3) := by decide +kernel
theorem dX2_sendToEach_15 : decode cX2_sendToEach 15 = .ok (.ifCond .eq 13, 3) := by decide +kernel
theorem dX2_sendToEach_18 : decode cX2_sendToEach 18 = .ok (.aload_n 0, 1) := by decide +kernel
theorem dX2_sendToEach_19 : decode cX2_sendToEach 19 = .ok (.iload_n 1, 1) := by decide +kernel
theorem dX2_sendToEach_20 : decode cX2_sendToEach 20 = .ok (.iload_n 2, 1) := by decide +kernel
theorem dX2_sendToEach_21 : decode cX2_sendToEach 21 = .ok (.iload 5, 2) := by decide +kernel
theorem dX2_sendToEach_23 : decode cX2_sendToEach 23 = .ok (.iload 4, 2) := by decide +kernel
theorem dX2_sendToEach_25 : decode cX2_sendToEach 25 = .ok (.invokevirtual 24, 3) := by decide +kernel
theorem dX2_sendToEach_28 : decode cX2_sendToEach 28 = .ok (.iinc 5 1, 3) := by decide +kernel
theorem dX2_sendToEach_31 : decode cX2_sendToEach 31 = .ok (.goto (-28), 3) := by decide +kernel
theorem dX2_sendToEach_34 : decode cX2_sendToEach 34 = .ok (.return_, 1) := by decide +kernel
theorem dX2_send_0 : decode cX2_send 0 = .ok (.aload_n 0, 1) := by decide +kernel
theorem dX2_send_1 : decode cX2_send 1 = .ok (.getfield 16, 3) := by decide +kernel
theorem dX2_send_4 : decode cX2_send 4 = .ok (.bipush 40, 2) := by decide +kernel
theorem dX2_send_6 : decode cX2_send 6 = .ok (.if_icmp .lt 4, 3) := by decide +kernel
theorem dX2_send_9 : decode cX2_send 9 = .ok (.return_, 1) := by decide +kernel
theorem dX2_send_10 : decode cX2_send 10 = .ok (.aload_n 0, 1) := by decide +kernel
theorem dX2_send_11 : decode cX2_send 11 = .ok (.getfield 11, 3) := by decide +kernel
theorem dX2_send_14 : decode cX2_send 14 = .ok (.iconst 0, 1) := by decide +kernel
theorem dX2_send_15 : decode cX2_send 15 = .ok (.aaload, 1) := by decide +kernel
theorem dX2_send_16 : decode cX2_send 16 = .ok (.aload_n 0, 1) := by decide +kernel
theorem dX2_send_17 : decode cX2_send 17 = .ok (.getfield 16, 3) := by decide +kernel
theorem dX2_send_20 : decode cX2_send 20 = .ok (.iload_n 1, 1) := by decide +kernel
theorem dX2_send_21 : decode cX2_send 21 = .ok (.iastore, 1) := by decide +kernel
theorem dX2_send_22 : decode cX2_send 22 = .ok (.aload_n 0, 1) := by decide +kernel
theorem dX2_send_23 : decode cX2_send 23 = .ok (.getfield 11, 3) := by decide +kernel
theorem dX2_send_26 : decode cX2_send 26 = .ok (.iconst 1, 1) := by decide +kernel
theorem dX2_send_27 : decode cX2_send 27 = .ok (.aaload, 1) := by decide +kernel
theorem dX2_send_28 : decode cX2_send 28 = .ok (.aload_n 0, 1) := by decide +kernel
theorem dX2_send_29 : decode cX2_send 29 = .ok (.getfield 16, 3) := by decide +kernel
theorem dX2_send_32 : decode cX2_send 32 = .ok (.iload_n 2, 1) := by decide +kernel
theorem dX2_send_33 : decode cX2_send 33 = .ok (.iastore, 1) := by decide +kernel
theorem dX2_send_34 : decode cX2_send 34 = .ok (.aload_n 0, 1) := by decide +kernel
theorem dX2_send_35 : decode cX2_send 35 = .ok (.getfield 11, 3) := by decide +kernel
theorem dX2_send_38 : decode cX2_send 38 = .ok (.iconst 2, 1) := by decide +kernel
theorem dX2_send_39 : decode cX2_send 39 = .ok (.aaload, 1) := by decide +kernel
theorem dX2_send_40 : decode cX2_send 40 = .ok (.aload_n 0, 1) := by decide +kernel
theorem dX2_send_41 : decode cX2_send 41 = .ok (.getfield 16, 3) := by decide +kernel
theorem dX2_send_44 : decode cX2_send 44 = .ok (.iload_n 3, 1) := by decide +kernel
theorem dX2_send_45 : decode cX2_send 45 = .ok (.iastore, 1) := by decide +kernel
theorem dX2_send_46 : decode cX2_send 46 = .ok (.aload_n 0, 1) := by decide +kernel
theorem dX2_send_47 : decode cX2_send 47 = .ok (.getfield 11, 3) := by decide +kernel
theorem dX2_send_50 : decode cX2_send 50 = .ok (.iconst 3, 1) := by decide +kernel
theorem dX2_send_51 : decode cX2_send 51 = .ok (.aaload, 1) := by decide +kernel
theorem dX2_send_52 : decode cX2_send 52 = .ok (.aload_n 0, 1) := by decide +kernel
theorem dX2_send_53 : decode cX2_send 53 = .ok (.getfield 16, 3) := by decide +kernel
theorem dX2_send_56 : decode cX2_send 56 = .ok (.iload 4, 2) := by decide +kernel
theorem dX2_send_58 : decode cX2_send 58 = .ok (.iastore, 1) := by decide +kernel
theorem dX2_send_59 : decode cX2_send 59 = .ok (.aload_n 0, 1) := by decide +kernel
theorem dX2_send_60 : decode cX2_send 60 = .ok (.dup, 1) := by decide +kernel
theorem dX2_send_61 : decode cX2_send 61 = .ok (.getfield 16, 3) := by decide +kernel
theorem dX2_send_64 : decode cX2_send 64 = .ok (.iconst 1, 1) := by decide +kernel
theorem dX2_send_65 : decode cX2_send 65 = .ok (.iadd, 1) := by decide +kernel
theorem dX2_send_66 : decode cX2_send 66 = .ok (.putfield 16, 3) := by decide +kernel
theorem dX2_send_69 : decode cX2_send 69 = .ok (.return_, 1) := by decide +kernel
theorem dJ6_bitCount_0 : decode cJ6_bitCount 0 = .ok (.iload_n 0, 1) := by decide +kernel
theorem dJ6_bitCount_1 : decode cJ6_bitCount 1 = .ok (.iload_n 0, 1) := by decide +kernel
theorem dJ6_bitCount_2 : decode cJ6_bitCount 2 = .ok (.iconst 1, 1) := by decide +kernel
theorem dJ6_bitCount_3 : decode cJ6_bitCount 3 = .ok (.iushr, 1) := by decide +kernel
theorem dJ6_bitCount_4 : decode cJ6_bitCount 4 = .ok (.ldc_w 265, 3) := by decide +kernel
theorem dJ6_bitCount_7 : decode cJ6_bitCount 7 = .ok (.iand, 1) := by decide +kernel
theorem dJ6_bitCount_8 : decode cJ6_bitCount 8 = .ok (.isub, 1) := by decide +kernel
theorem dJ6_bitCount_9 : decode cJ6_bitCount 9 = .ok (.istore_n 0, 1) := by decide +kernel
theorem dJ6_bitCount_10 : decode cJ6_bitCount 10 = .ok (.iload_n 0, 1) := by decide +kernel
theorem dJ6_bitCount_11 : decode cJ6_bitCount 11 = .ok (.ldc_w 266, 3) := by decide +kernel
theorem dJ6_bitCount_14 : decode cJ6_bitCount 14 = .ok (.iand, 1) := by decide +kernel
theorem dJ6_bitCount_15 : decode cJ6_bitCount 15 = .ok (.iload_n 0, 1) := by decide +kernel
theorem dJ6_bitCount_16 : decode cJ6_bitCount 16 = .ok (.iconst 2, 1) := by decide +kernel
theorem dJ6_bitCount_17 : decode cJ6_bitCount 17 = .ok (.iushr, 1) := by decide +kernel
theorem dJ6_bitCount_18 : decode cJ6_bitCount 18 = .ok (.ldc_w 266, 3) := by decide +kernel
theorem dJ6_bitCount_21 : decode cJ6_bitCount 21 = .ok (.iand, 1) := by decide +kernel
theorem dJ6_bitCount_22 : decode cJ6_bitCount 22 = .ok (.iadd, 1) := by decide +kernel
theorem dJ6_bitCount_23 : decode cJ6_bitCount 23 = .ok (.istore_n 0, 1) := by decide +kernel
theorem dJ6_bitCount_24 : decode cJ6_bitCount 24 = .ok (.iload_n 0, 1) := by decide +kernel
theorem dJ6_bitCount_25 : decode cJ6_bitCount 25 = .ok (.iload_n 0, 1) := by decide +kernel
theorem dJ6_bitCount_26 : decode cJ6_bitCount 26 = .ok (.iconst 4, 1) := by decide +kernel
theorem dJ6_bitCount_27 : decode cJ6_bitCount 27 = .ok (.iushr, 1) := by decide +kernel
theorem dJ6_bitCount_28 : decode cJ6_bitCount 28 = .ok (.iadd, 1) := by decide +kernel
theorem dJ6_bitCount_29 : decode cJ6_bitCount 29 = .ok (.ldc_w 267, 3) := by decide +kernel
theorem dJ6_bitCount_32 : decode cJ6_bitCount 32 = .ok (.iand, 1) := by decide +kernel
theorem dJ6_bitCount_33 : decode cJ6_bitCount 33 = .ok (.istore_n 0, 1) := by decide +kernel
theorem dJ6_bitCount_34 : decode cJ6_bitCount 34 = .ok (.iload_n 0, 1) := by decide +kernel
theorem dJ6_bitCount_35 : decode cJ6_bitCount 35 = .ok (.iload_n 0, 1) := by decide +kernel
theorem dJ6_bitCount_36 : decode cJ6_bitCount 36 = .ok (.bipush 8, 2) := by decide +kernel
theorem dJ6_bitCount_38 : decode cJ6_bitCount 38 = .ok (.iushr, 1) := by decide +kernel
theorem dJ6_bitCount_39 : decode cJ6_bitCount 39 = .ok (.iadd, 1) := by decide +kernel
theorem dJ6_bitCount_40 : decode cJ6_bitCount 40 = .ok (.istore_n 0, 1) := by decide +kernel
theorem dJ6_bitCount_41 : decode cJ6_bitCount 41 = .ok (.iload_n 0, 1) := by decide +kernel
theorem dJ6_bitCount_42 : decode cJ6_bitCount 42 = .ok (.iload_n 0, 1) := by decide +kernel
theorem dJ6_bitCount_43 : decode cJ6_bitCount 43 = .ok (.bipush 16, 2) := by decide +kernel
theorem dJ6_bitCount_45 : decode cJ6_bitCount 45 = .ok (.iushr, 1) := by decide +kernel
theorem dJ6_bitCount_46 : decode cJ6_bitCount 46 = .ok (.iadd, 1) := by decide +kernel
theorem dJ6_bitCount_47 : decode cJ6_bitCount 47 = .ok (.istore_n 0, 1) := by decide +kernel
theorem dJ6_bitCount_48 : decode cJ6_bitCount 48 = .ok (.iload_n 0, 1) := by decide +kernel
theorem dJ6_bitCount_49 : decode cJ6_bitCount 49 = .ok (.bipush 63, 2) := by decide +kernel
theorem dJ6_bitCount_51 : decode cJ6_bitCount 51 = .ok (.iand, 1) := by decide +kernel
theorem dJ6_bitCount_52 : decode cJ6_bitCount 52 = .ok (.ireturn, 1) := by decide +kernel
theorem dX0_withdraw_0 : decode cX0_withdraw 0 = .ok (.aload_n 0, 1) := by decide +kernel
theorem dX0_withdraw_1 : decode cX0_withdraw 1 = .ok (.iload_n 1, 1) := by decide +kernel
theorem dX0_withdraw_2 : decode cX0_withdraw 2 = .ok (.invokevirtual 48, 3) := by decide +kernel
theorem dX0_withdraw_5 : decode cX0_withdraw 5 = .ok (.ifCond .ne 6, 3) := by decide +kernel
theorem dX0_withdraw_8 : decode cX0_withdraw 8 = .ok (.bipush (-2), 2) := by decide +kernel
theorem dX0_withdraw_10 : decode cX0_withdraw 10 = .ok (.ireturn, 1) := by decide +kernel
theorem dX0_withdraw_11 : decode cX0_withdraw 11 = .ok (.aload_n 0, 1) := by decide +kernel
theorem dX0_withdraw_12 : decode cX0_withdraw 12 = .ok (.getfield 18, 3) := by decide +kernel
theorem dX0_withdraw_15 : decode cX0_withdraw 15 = .ok (.iload_n 1, 1) := by decide +kernel
theorem dX0_withdraw_16 : decode cX0_withdraw 16 = .ok (.aaload, 1) := by decide +kernel
theorem dX0_withdraw_17 : decode cX0_withdraw 17 = .ok (.astore_n 2, 1) := by decide +kernel
theorem dX0_withdraw_18 : decode cX0_withdraw 18 = .ok (.aload_n 0, 1) := by decide +kernel
theorem dX0_withdraw_19 : decode cX0_withdraw 19 = .ok (.getfield 11, 3) := by decide +kernel
theorem dX0_withdraw_22 : decode cX0_withdraw 22 = .ok (.aload_n 2, 1) := by decide +kernel
theorem dX0_withdraw_23 : decode cX0_withdraw 23 = .ok (.getfield 42, 3) := by decide +kernel
theorem dX0_withdraw_26 : decode cX0_withdraw 26 = .ok (.aaload, 1) := by decide +kernel
theorem dX0_withdraw_27 : decode cX0_withdraw 27 = .ok (.getfield 38, 3) := by decide +kernel
theorem dX0_withdraw_30 : decode cX0_withdraw 30 = .ok (.ifCond .ne 6, 3) := by decide +kernel
theorem dX0_withdraw_33 : decode cX0_withdraw 33 = .ok (.bipush (-3), 2) := by decide +kernel
theorem dX0_withdraw_35 : decode cX0_withdraw 35 = .ok (.ireturn, 1) := by decide +kernel
theorem dX0_withdraw_36 : decode cX0_withdraw 36 = .ok (.aload_n 2, 1) := by decide +kernel
theorem dX0_withdraw_37 : decode cX0_withdraw 37 = .ok (.getfield 45, 3) := by decide +kernel
theorem dX0_withdraw_40 : decode cX0_withdraw 40 = .ok (.iconst 1, 1) := by decide +kernel
theorem dX0_withdraw_41 : decode cX0_withdraw 41 = .ok (.if_icmp .eq 14, 3) := by decide +kernel
theorem dX0_withdraw_44 : decode cX0_withdraw 44 = .ok (.aload_n 2, 1) := by decide +kernel
theorem dX0_withdraw_45 : decode cX0_withdraw 45 = .ok (.getfield 45, 3) := by decide +kernel
theorem dX0_withdraw_48 : decode cX0_withdraw 48 = .ok (.iconst 2, 1) := by decide +kernel
theorem dX0_withdraw_49 : decode cX0_withdraw 49 = .ok (.if_icmp .eq 6, 3) := by decide +kernel
theorem dX0_withdraw_52 : decode cX0_withdraw 52 = .ok (.bipush (-4), 2) := by decide +kernel
theorem dX0_withdraw_54 : decode cX0_withdraw 54 = .ok (.ireturn, 1) := by decide +kernel
theorem dX0_withdraw_55 : decode cX0_withdraw 55 = .ok (.aload_n 0, 1) := by decide +kernel
theorem dX0_withdraw_56 : decode cX0_withdraw 56 = .ok (.iload_n 1, 1) := by decide +kernel
theorem dX0_withdraw_57 : decode cX0_withdraw 57 = .ok (.iconst 0, 1) := by decide +kernel
theorem dX0_withdraw_58 : decode cX0_withdraw 58 = .ok (.invokevirtual 84, 3) := by decide +kernel
theorem dX0_withdraw_61 : decode cX0_withdraw 61 = .ok (.ireturn, 1) := by decide +kernel
theorem dX0_giveUp_0 : decode cX0_giveUp 0 = .ok (.aload_n 0, 1) := by decide +kernel
theorem dX0_giveUp_1 : decode cX0_giveUp 1 = .ok (.getfield 18, 3) := by decide +kernel
theorem dX0_giveUp_4 : decode cX0_giveUp 4 = .ok (.iload_n 1, 1) := by decide +kernel
theorem dX0_giveUp_5 : decode cX0_giveUp 5 = .ok (.aaload, 1) := by decide +kernel
theorem dX0_giveUp_6 : decode cX0_giveUp 6 = .ok (.astore_n 3, 1) := by decide +kernel
theorem dX0_giveUp_7 : decode cX0_giveUp 7 = .ok (.aload_n 3, 1) := by decide +kernel
theorem dX0_giveUp_8 : decode cX0_giveUp 8 = .ok (.getfield 54, 3) := by decide +kernel
theorem dX0_giveUp_11 : decode cX0_giveUp 11 = .ok (.aload_n 3, 1) := by decide +kernel
theorem dX0_giveUp_12 : decode cX0_giveUp 12 = .ok (.getfield 130, 3) := by decide +kernel
theorem dX0_giveUp_15 : decode cX0_giveUp 15 = .ok (.iconst (-1), 1) := by decide +kernel
theorem dX0_giveUp_16 : decode cX0_giveUp 16 = .ok (.ixor, 1) := by decide +kernel
theorem dX0_giveUp_17 : decode cX0_giveUp 17 = .ok (.iand, 1) := by decide +kernel
theorem dX0_giveUp_18 : decode cX0_giveUp 18 = .ok (.iload_n 2, 1) := by decide +kernel
theorem dX0_giveUp_19 : decode cX0_giveUp 19 = .ok (.iconst (-1), 1) := by decide +kernel
theorem dX0_giveUp_20 : decode cX0_giveUp 20 = .ok (.ixor, 1) := by decide +kernel
theorem dX0_giveUp_21 : decode cX0_giveUp 21 = .ok (.iand, 1) := by decide +kernel
theorem dX0_giveUp_22 : decode cX0_giveUp 22 = .ok (.istore 4, 2) := by decide +kernel
theorem dX0_giveUp_24 : decode cX0_giveUp 24 = .ok (.aload_n 0, 1) := by decide +kernel
theorem dX0_giveUp_25 : decode cX0_giveUp 25 = .ok (.getfield 11, 3) := by decide +kernel
theorem dX0_giveUp_28 : decode cX0_giveUp 28 = .ok (.aload_n 3, 1) := by decide +kernel
theorem dX0_giveUp_29 : decode cX0_giveUp 29 = .ok (.getfield 42, 3) := by decide +kernel
theorem dX0_giveUp_32 : decode cX0_giveUp 32 = .ok (.aaload, 1) := by decide +kernel
theorem dX0_giveUp_33 : decode cX0_giveUp 33 = .ok (.getfield 111, 3) := by decide +kernel
theorem dX0_giveUp_36 : decode cX0_giveUp 36 = .ok (.iload_n 1, 1) := by decide +kernel
theorem dX0_giveUp_37 : decode cX0_giveUp 37 = .ok (.iconst 5, 1) := by decide +kernel
theorem dX0_giveUp_38 : decode cX0_giveUp 38 = .ok (.iconst 0, 1) := by decide +kernel
theorem dX0_giveUp_39 : decode cX0_giveUp 39 = .ok (.invokevirtual 189, 3) := by decide +kernel
theorem dX0_giveUp_42 : decode cX0_giveUp 42 = .ok (.aload_n 0, 1) := by decide +kernel
theorem dX0_giveUp_43 : decode cX0_giveUp 43 = .ok (.getfield 26, 3) := by decide +kernel
theorem dX0_giveUp_46 : decode cX0_giveUp 46 = .ok (.bipush 6, 2) := by decide +kernel
theorem dX0_giveUp_48 : decode cX0_giveUp 48 = .ok (.aload_n 3, 1) := by decide +kernel
theorem dX0_giveUp_49 : decode cX0_giveUp 49 = .ok (.getfield 42, 3) := by decide +kernel
theorem dX0_giveUp_52 : decode cX0_giveUp 52 = .ok (.iload 4, 2) := by decide +kernel
theorem dX0_giveUp_54 : decode cX0_giveUp 54 = .ok (.iload_n 1, 1) := by decide +kernel
theorem dX0_giveUp_55 : decode cX0_giveUp 55 = .ok (.invokevirtual 75, 3) := by decide +kernel
theorem dX0_giveUp_58 : decode cX0_giveUp 58 = .ok (.aload_n 3, 1) := by decide +kernel
theorem dX0_giveUp_59 : decode cX0_giveUp 59 = .ok (.invokevirtual 72, 3) := by decide +kernel
theorem dX0_giveUp_62 : decode cX0_giveUp 62 = .ok (.iload 4, 2) := by decide +kernel
theorem dX0_giveUp_64 : decode cX0_giveUp 64 = .ok (.invokestatic 79, 3) := by decide +kernel
theorem dX0_giveUp_67 : decode cX0_giveUp 67 = .ok (.ireturn, 1) := by decide +kernel
theorem dX1_write_0 : decode cX1_write 0 = .ok (.aload_n 0, 1) := by decide +kernel
theorem dX1_write_1 : decode cX1_write 1 = .ok (.getfield 18, 3) := by decide +kernel
theorem dX1_write_4 : decode cX1_write 4 = .ok (.bipush 60, 2) := by decide +kernel
theorem dX1_write_6 : decode cX1_write 6 = .ok (.if_icmp .lt 4, 3) := by decide +kernel
theorem dX1_write_9 : decode cX1_write 9 = .ok (.return_, 1) := by decide +kernel
theorem dX1_write_10 : decode cX1_write 10 = .ok (.aload_n 0, 1) := by decide +kernel
theorem dX1_write_11 : decode cX1_write 11 = .ok (.getfield 9, 3) := by decide +kernel
theorem dX1_write_14 : decode cX1_write 14 = .ok (.aload_n 0, 1) := by decide +kernel
theorem dX1_write_15 : decode cX1_write 15 = .ok (.getfield 18, 3) := by decide +kernel
theorem dX1_write_18 : decode cX1_write 18 = .ok (.iload_n 1, 1) := by decide +kernel
theorem dX1_write_19 : decode cX1_write 19 = .ok (.iload_n 2, 1) := by decide +kernel
theorem dX1_write_20 : decode cX1_write 20 = .ok (.invokestatic 22, 3) := by decide +kernel
theorem dX1_write_23 : decode cX1_write 23 = .ok (.iastore, 1) := by decide +kernel
theorem dX1_write_24 : decode cX1_write 24 = .ok (.aload_n 0, 1) := by decide +kernel
theorem dX1_write_25 : decode cX1_write 25 = .ok (.getfield 15, 3) := by decide +kernel
theorem dX1_write_28 : decode cX1_write 28 = .ok (.aload_n 0, 1) := by decide +kernel
theorem dX1_write_29 : decode cX1_write 29 = .ok (.getfield 18, 3) := by decide +kernel
theorem dX1_write_32 : decode cX1_write 32 = .ok (.iload_n 3, 1) := by decide +kernel
theorem dX1_write_33 : decode cX1_write 33 = .ok (.iastore, 1) := by decide +kernel
theorem dX1_write_34 : decode cX1_write 34 = .ok (.aload_n 0, 1) := by decide +kernel
theorem dX1_write_35 : decode cX1_write 35 = .ok (.dup, 1) := by decide +kernel
theorem dX1_write_36 : decode cX1_write 36 = .ok (.getfield 18, 3) := by decide +kernel
theorem dX1_write_39 : decode cX1_write 39 = .ok (.iconst 1, 1) := by decide +kernel
theorem dX1_write_40 : decode cX1_write 40 = .ok (.iadd, 1) := by decide +kernel
theorem dX1_write_41 : decode cX1_write 41 = .ok (.putfield 18, 3) := by decide +kernel
theorem dX1_write_44 : decode cX1_write 44 = .ok (.return_, 1) := by decide +kernel
theorem dX1_labelOf_0 : decode cX1_labelOf 0 = .ok (.bipush 10, 2) := by decide +kernel
theorem dX1_labelOf_2 : decode cX1_labelOf 2 = .ok (.iload_n 0, 1) := by decide +kernel
theorem dX1_labelOf_3 : decode cX1_labelOf 3 = .ok (.imul, 1) := by decide +kernel
theorem dX1_labelOf_4 : decode cX1_labelOf 4 = .ok (.iload_n 1, 1) := by decide +kernel
theorem dX1_labelOf_5 : decode cX1_labelOf 5 = .ok (.iadd, 1) := by decide +kernel
theorem dX1_labelOf_6 : decode cX1_labelOf 6 = .ok (.ireturn, 1) := by decide +kernel
theorem dX0_deliver_0 : decode cX0_deliver 0 = .ok (.aload_n 0, 1) := by decide +kernel
theorem dX0_deliver_1 : decode cX0_deliver 1 = .ok (.getfield 26, 3) := by decide +kernel
theorem dX0_deliver_4 : decode cX0_deliver 4 = .ok (.iload_n 1, 1) := by decide +kernel
theorem dX0_deliver_5 : decode cX0_deliver 5 = .ok (.invokevirtual 88, 3) := by decide +kernel
theorem dX0_deliver_8 : decode cX0_deliver 8 = .ok (.ifCond .ne 6, 3) := by decide +kernel
theorem dX0_deliver_11 : decode cX0_deliver 11 = .ok (.bipush (-2), 2) := by decide +kernel
theorem dX0_deliver_13 : decode cX0_deliver 13 = .ok (.ireturn, 1) := by decide +kernel
theorem dX0_deliver_14 : decode cX0_deliver 14 = .ok (.aload_n 0, 1) := by decide +kernel
theorem dX0_deliver_15 : decode cX0_deliver 15 = .ok (.getfield 26, 3) := by decide +kernel
theorem dX0_deliver_18 : decode cX0_deliver 18 = .ok (.getfield 91, 3) := by decide +kernel
theorem dX0_deliver_21 : decode cX0_deliver 21 = .ok (.iconst 0, 1) := by decide +kernel
theorem dX0_deliver_22 : decode cX0_deliver 22 = .ok (.aaload, 1) := by decide +kernel
theorem dX0_deliver_23 : decode cX0_deliver 23 = .ok (.iload_n 1, 1) := by decide +kernel
theorem dX0_deliver_24 : decode cX0_deliver 24 = .ok (.iaload, 1) := by decide +kernel
theorem dX0_deliver_25 : decode cX0_deliver 25 = .ok (.istore_n 2, 1) := by decide +kernel
theorem dX0_deliver_26 : decode cX0_deliver 26 = .ok (.aload_n 0, 1) := by decide +kernel
theorem dX0_deliver_27 : decode cX0_deliver 27 = .ok (.getfield 26, 3) := by decide +kernel
theorem dX0_deliver_30 : decode cX0_deliver 30 = .ok (.getfield 91, 3) := by decide +kernel
theorem dX0_deliver_33 : decode cX0_deliver 33 = .ok (.iconst 1, 1) := by decide +kernel
theorem dX0_deliver_34 : decode cX0_deliver 34 = .ok (.aaload, 1) := by decide +kernel
theorem dX0_deliver_35 : decode cX0_deliver 35 = .ok (.iload_n 1, 1) := by decide +kernel
theorem dX0_deliver_36 : decode cX0_deliver 36 = .ok (.iaload, 1) := by decide +kernel
theorem dX0_deliver_37 : decode cX0_deliver 37 = .ok (.istore_n 3, 1) := by decide +kernel
theorem dX0_deliver_38 : decode cX0_deliver 38 = .ok (.aload_n 0, 1) := by decide +kernel
theorem dX0_deliver_39 : decode cX0_deliver 39 = .ok (.getfield 26, 3) := by decide +kernel
theorem dX0_deliver_42 : decode cX0_deliver 42 = .ok (.getfield 91, 3) := by decide +kernel
theorem dX0_deliver_45 : decode cX0_deliver 45 = .ok (.iconst 2, 1) := by decide +kernel
theorem dX0_deliver_46 : decode cX0_deliver 46 = .ok (.aaload, 1) := by decide +kernel
theorem dX0_deliver_47 : decode cX0_deliver 47 = .ok (.iload_n 1, 1) := by decide +kernel
theorem dX0_deliver_48 : decode cX0_deliver 48 = .ok (.iaload, 1) := by decide +kernel
theorem dX0_deliver_49 : decode cX0_deliver 49 = .ok (.istore 4, 2) := by decide +kernel
theorem dX0_deliver_51 : decode cX0_deliver 51 = .ok (.aload_n 0, 1) := by decide +kernel
theorem dX0_deliver_52 : decode cX0_deliver 52 = .ok (.getfield 26, 3) := by decide +kernel
theorem dX0_deliver_55 : decode cX0_deliver 55 = .ok (.getfield 91, 3) := by decide +kernel
theorem dX0_deliver_58 : decode cX0_deliver 58 = .ok (.iconst 3, 1) := by decide +kernel
theorem dX0_deliver_59 : decode cX0_deliver 59 = .ok (.aaload, 1) := by decide +kernel
theorem dX0_deliver_60 : decode cX0_deliver 60 = .ok (.iload_n 1, 1) := by decide +kernel
theorem dX0_deliver_61 : decode cX0_deliver 61 = .ok (.iaload, 1) := by decide +kernel
theorem dX0_deliver_62 : decode cX0_deliver 62 = .ok (.istore 5, 2) := by decide +kernel
theorem dX0_deliver_64 : decode cX0_deliver 64 = .ok (.aload_n 0, 1) := by decide +kernel
theorem dX0_deliver_65 : decode cX0_deliver 65 = .ok (.getfield 26, 3) := by decide +kernel
theorem dX0_deliver_68 : decode cX0_deliver 68 = .ok (.iload_n 1, 1) := by decide +kernel
theorem dX0_deliver_69 : decode cX0_deliver 69 = .ok (.invokevirtual 95, 3) := by decide +kernel
theorem dX0_deliver_72 : decode cX0_deliver 72 = .ok (.aload_n 0, 1) := by decide +kernel
theorem dX0_deliver_73 : decode cX0_deliver 73 = .ok (.getfield 11, 3) := by decide +kernel
theorem dX0_deliver_76 : decode cX0_deliver 76 = .ok (.iload 4, 2) := by decide +kernel
theorem dX0_deliver_78 : decode cX0_deliver 78 = .ok (.aaload, 1) := by decide +kernel
theorem dX0_deliver_79 : decode cX0_deliver 79 = .ok (.getfield 38, 3) := by decide +kernel
theorem dX0_deliver_82 : decode cX0_deliver 82 = .ok (.ifCond .eq 13, 3) := by decide +kernel
theorem dX0_deliver_85 : decode cX0_deliver 85 = .ok (.aload_n 0, 1) := by decide +kernel
theorem dX0_deliver_86 : decode cX0_deliver 86 = .ok (.iload_n 2, 1) := by decide +kernel
theorem dX0_deliver_87 : decode cX0_deliver 87 = .ok (.iload_n 3, 1) := by decide +kernel
theorem dX0_deliver_88 : decode cX0_deliver 88 = .ok (.iload 4, 2) := by decide +kernel
theorem dX0_deliver_90 : decode cX0_deliver 90 = .ok (.iload 5, 2) := by decide +kernel
theorem dX0_deliver_92 : decode cX0_deliver 92 = .ok (.invokevirtual 99, 3) := by decide +kernel
theorem dX0_deliver_95 : decode cX0_deliver 95 = .ok (.iload_n 2, 1) := by decide +kernel
theorem dX0_deliver_96 : decode cX0_deliver 96 = .ok (.ireturn, 1) := by decide +kernel
theorem dX2_has_0 : decode cX2_has 0 = .ok (.iload_n 1, 1) := by decide +kernel
theorem dX2_has_1 : decode cX2_has 1 = .ok (.ifCond .lt 15, 3) := by decide +kernel
theorem dX2_has_4 : decode cX2_has 4 = .ok (.iload_n 1, 1) := by decide +kernel
theorem dX2_has_5 : decode cX2_has 5 = .ok (.aload_n 0, 1) := by decide +kernel
theorem dX2_has_6 : decode cX2_has 6 = .ok (.getfield 16, 3) := by decide +kernel
theorem dX2_has_9 : decode cX2_has 9 = .ok (.if_icmp .ge 7, 3) := by decide +kernel
theorem dX2_has_12 : decode cX2_has 12 = .ok (.iconst 1, 1) := by decide +kernel
theorem dX2_has_13 : decode cX2_has 13 = .ok (.goto 4, 3) := by decide +kernel
theorem dX2_has_16 : decode cX2_has 16 = .ok (.iconst 0, 1) := by decide +kernel
theorem dX2_has_17 : decode cX2_has 17 = .ok (.ireturn, 1) := by decide +kernel
theorem dX2_takeOut_0 : decode cX2_takeOut 0 = .ok (.aload_n 0, 1) := by decide +kernel
theorem dX2_takeOut_1 : decode cX2_takeOut 1 = .ok (.dup, 1) := by decide +kernel
theorem dX2_takeOut_2 : decode cX2_takeOut 2 = .ok (.getfield 16, 3) := by decide +kernel
theorem dX2_takeOut_5 : decode cX2_takeOut 5 = .ok (.iconst 1, 1) := by decide +kernel
theorem dX2_takeOut_6 : decode cX2_takeOut 6 = .ok (.isub, 1) := by decide +kernel
theorem dX2_takeOut_7 : decode cX2_takeOut 7 = .ok (.putfield 16, 3) := by decide +kernel
theorem dX2_takeOut_10 : decode cX2_takeOut 10 = .ok (.iconst 0, 1) := by decide +kernel
theorem dX2_takeOut_11 : decode cX2_takeOut 11 = .ok (.istore_n 2, 1) := by decide +kernel
theorem dX2_takeOut_12 : decode cX2_takeOut 12 = .ok (.iload_n 2, 1) := by decide +kernel
theorem dX2_takeOut_13 : decode cX2_takeOut 13 = .ok (.iconst 4, 1) := by decide +kernel
theorem dX2_takeOut_14 : decode cX2_takeOut 14 = .ok (.if_icmp .ge 43, 3) := by decide +kernel
theorem dX2_takeOut_17 : decode cX2_takeOut 17 = .ok (.iload_n 1, 1) := by decide +kernel
theorem dX2_takeOut_18 : decode cX2_takeOut 18 = .ok (.istore_n 3, 1) := by decide +kernel
theorem dX2_takeOut_19 : decode cX2_takeOut 19 = .ok (.iload_n 3, 1) := by decide +kernel
theorem dX2_takeOut_20 : decode cX2_takeOut 20 = .ok (.aload_n 0, 1) := by decide +kernel
theorem dX2_takeOut_21 : decode cX2_takeOut 21 = .ok (.getfield 16, 3) := by decide +kernel
theorem dX2_takeOut_24 : decode cX2_takeOut 24 = .ok (.if_icmp .ge 27, 3) := by decide +kernel
theorem dX2_takeOut_27 : decode cX2_takeOut 27 = .ok (.aload_n 0, 1) := by decide +kernel
theorem dX2_takeOut_28 : decode cX2_takeOut 28 = .ok (.getfield 11, 3) := by decide +kernel
theorem dX2_takeOut_31 : decode cX2_takeOut 31 = .ok (.iload_n 2, 1) := by decide +kernel
theorem dX2_takeOut_32 : decode cX2_takeOut 32 = .ok (.aaload, 1) := by decide +kernel
theorem dX2_takeOut_33 : decode cX2_takeOut 33 = .ok (.iload_n 3, 1) := by decide +kernel
theorem dX2_takeOut_34 : decode cX2_takeOut 34 = .ok (.aload_n 0, 1) := by decide +kernel
theorem dX2_takeOut_35 : decode cX2_takeOut 35 = .ok (.getfield 11, 3) := by decide +kernel
theorem dX2_takeOut_38 : decode cX2_takeOut 38 = .ok (.iload_n 2, 1) := by decide +kernel
theorem dX2_takeOut_39 : decode cX2_takeOut 39 = .ok (.aaload, 1) := by decide +kernel
theorem dX2_takeOut_40 : decode cX2_takeOut 40 = .ok (.iload_n 3, 1) := by decide +kernel
theorem dX2_takeOut_41 : decode cX2_takeOut 41 = .ok (.iconst 1, 1) := by decide +kernel
theorem dX2_takeOut_42 : decode cX2_takeOut 42 = .ok (.iadd, 1) := by decide +kernel
theorem dX2_takeOut_43 : decode cX2_takeOut 43 = .ok (.iaload, 1) := by decide +kernel
theorem dX2_takeOut_44 : decode cX2_takeOut 44 = .ok (.iastore, 1) := by decide +kernel
theorem dX2_takeOut_45 : decode cX2_takeOut 45 = .ok (.iinc 3 1, 3) := by decide +kernel
theorem dX2_takeOut_48 : decode cX2_takeOut 48 = .ok (.goto (-29), 3) := by decide +kernel
theorem dX2_takeOut_51 : decode cX2_takeOut 51 = .ok (.iinc 2 1, 3) := by decide +kernel
theorem dX2_takeOut_54 : decode cX2_takeOut 54 = .ok (.goto (-42), 3) := by decide +kernel
theorem dX2_takeOut_57 : decode cX2_takeOut 57 = .ok (.return_, 1) := by decide +kernel
theorem dX0_hear_0 : decode cX0_hear 0 = .ok (.iload_n 1, 1) := by decide +kernel
theorem dX0_hear_1 : decode cX0_hear 1 = .ok (.tableswitch 145 1 8 #[47, 72, 72, 72, 83, 110, 124, 134], 47) := by decide +kernel
theorem dX0_hear_48 : decode cX0_hear 48 = .ok (.aload_n 0, 1) := by decide +kernel
theorem dX0_hear_49 : decode cX0_hear 49 = .ok (.getfield 26, 3) := by decide +kernel
theorem dX0_hear_52 : decode cX0_hear 52 = .ok (.aload_n 0, 1) := by decide +kernel
theorem dX0_hear_53 : decode cX0_hear 53 = .ok (.getfield 11, 3) := by decide +kernel
theorem dX0_hear_56 : decode cX0_hear 56 = .ok (.iload_n 3, 1) := by decide +kernel
theorem dX0_hear_57 : decode cX0_hear 57 = .ok (.aaload, 1) := by decide +kernel
theorem dX0_hear_58 : decode cX0_hear 58 = .ok (.iload 4, 2) := by decide +kernel
theorem dX0_hear_60 : decode cX0_hear 60 = .ok (.invokevirtual 156, 3) := by decide +kernel
theorem dX0_hear_63 : decode cX0_hear 63 = .ok (.iload_n 3, 1) := by decide +kernel
theorem dX0_hear_64 : decode cX0_hear 64 = .ok (.iload_n 2, 1) := by decide +kernel
theorem dX0_hear_65 : decode cX0_hear 65 = .ok (.iload 4, 2) := by decide +kernel
theorem dX0_hear_67 : decode cX0_hear 67 = .ok (.invokevirtual 159, 3) := by decide +kernel
theorem dX0_hear_70 : decode cX0_hear 70 = .ok (.goto 76, 3) := by decide +kernel
theorem dX0_hear_73 : decode cX0_hear 73 = .ok (.aload_n 0, 1) := by decide +kernel
theorem dX0_hear_74 : decode cX0_hear 74 = .ok (.iload_n 1, 1) := by decide +kernel
theorem dX0_hear_75 : decode cX0_hear 75 = .ok (.iload_n 2, 1) := by decide +kernel
theorem dX0_hear_76 : decode cX0_hear 76 = .ok (.iload 4, 2) := by decide +kernel
theorem dX0_hear_78 : decode cX0_hear 78 = .ok (.invokevirtual 162, 3) := by decide +kernel
theorem dX0_hear_81 : decode cX0_hear 81 = .ok (.goto 65, 3) := by decide +kernel
theorem dX0_hear_84 : decode cX0_hear 84 = .ok (.aload_n 0, 1) := by decide +kernel
theorem dX0_hear_85 : decode cX0_hear 85 = .ok (.getfield 11, 3) := by decide +kernel
theorem dX0_hear_88 : decode cX0_hear 88 = .ok (.iload_n 3, 1) := by decide +kernel
theorem dX0_hear_89 : decode cX0_hear 89 = .ok (.aaload, 1) := by decide +kernel
theorem dX0_hear_90 : decode cX0_hear 90 = .ok (.iload 4, 2) := by decide +kernel
theorem dX0_hear_92 : decode cX0_hear 92 = .ok (.invokevirtual 166, 3) := by decide +kernel
theorem dX0_hear_95 : decode cX0_hear 95 = .ok (.aload_n 0, 1) := by decide +kernel
theorem dX0_hear_96 : decode cX0_hear 96 = .ok (.getfield 26, 3) := by decide +kernel
theorem dX0_hear_99 : decode cX0_hear 99 = .ok (.bipush 7, 2) := by decide +kernel
theorem dX0_hear_101 : decode cX0_hear 101 = .ok (.iload_n 3, 1) := by decide +kernel
theorem dX0_hear_102 : decode cX0_hear 102 = .ok (.iload_n 2, 1) := by decide +kernel
theorem dX0_hear_103 : decode cX0_hear 103 = .ok (.iload 4, 2) := by decide +kernel
theorem dX0_hear_105 : decode cX0_hear 105 = .ok (.invokevirtual 159, 3) := by decide +kernel
theorem dX0_hear_108 : decode cX0_hear 108 = .ok (.goto 38, 3) := by decide +kernel
theorem dX0_hear_111 : decode cX0_hear 111 = .ok (.aload_n 0, 1) := by decide +kernel
theorem dX0_hear_112 : decode cX0_hear 112 = .ok (.getfield 11, 3) := by decide +kernel
theorem dX0_hear_115 : decode cX0_hear 115 = .ok (.iload_n 3, 1) := by decide +kernel
theorem dX0_hear_116 : decode cX0_hear 116 = .ok (.aaload, 1) := by decide +kernel
theorem dX0_hear_117 : decode cX0_hear 117 = .ok (.iload 4, 2) := by decide +kernel
theorem dX0_hear_119 : decode cX0_hear 119 = .ok (.invokevirtual 169, 3) := by decide +kernel
theorem dX0_hear_122 : decode cX0_hear 122 = .ok (.goto 24, 3) := by decide +kernel
theorem dX0_hear_125 : decode cX0_hear 125 = .ok (.aload_n 0, 1) := by decide +kernel
theorem dX0_hear_126 : decode cX0_hear 126 = .ok (.iload_n 2, 1) := by decide +kernel
theorem dX0_hear_127 : decode cX0_hear 127 = .ok (.iload 4, 2) := by decide +kernel
theorem dX0_hear_129 : decode cX0_hear 129 = .ok (.invokevirtual 172, 3) := by decide +kernel
theorem dX0_hear_132 : decode cX0_hear 132 = .ok (.goto 14, 3) := by decide +kernel
theorem dX0_hear_135 : decode cX0_hear 135 = .ok (.aload_n 0, 1) := by decide +kernel
theorem dX0_hear_136 : decode cX0_hear 136 = .ok (.iload_n 2, 1) := by decide +kernel
theorem dX0_hear_137 : decode cX0_hear 137 = .ok (.iload_n 3, 1) := by decide +kernel
theorem dX0_hear_138 : decode cX0_hear 138 = .ok (.iload 4, 2) := by decide +kernel
theorem dX0_hear_140 : decode cX0_hear 140 = .ok (.invokevirtual 176, 3) := by decide +kernel
theorem dX0_hear_143 : decode cX0_hear 143 = .ok (.goto 3, 3) := by decide +kernel
theorem dX0_hear_146 : decode cX0_hear 146 = .ok (.return_, 1) := by decide +kernel
theorem dX3_voteOn_0 : decode cX3_voteOn 0 = .ok (.aload_n 0, 1) := by decide +kernel
theorem dX3_voteOn_1 : decode cX3_voteOn 1 = .ok (.getfield 15, 3) := by decide +kernel
theorem dX3_voteOn_4 : decode cX3_voteOn 4 = .ok (.iload_n 1, 1) := by decide +kernel
theorem dX3_voteOn_5 : decode cX3_voteOn 5 = .ok (.iaload, 1) := by decide +kernel
theorem dX3_voteOn_6 : decode cX3_voteOn 6 = .ok (.lookupswitch 34 #[(1, 26), (3, 32)], 26) := by decide +kernel
theorem dX3_voteOn_32 : decode cX3_voteOn 32 = .ok (.aload_n 0, 1) := by decide +kernel
theorem dX3_voteOn_33 : decode cX3_voteOn 33 = .ok (.iload_n 1, 1) := by decide +kernel
theorem dX3_voteOn_34 : decode cX3_voteOn 34 = .ok (.invokevirtual 40, 3) := by decide +kernel
theorem dX3_voteOn_37 : decode cX3_voteOn 37 = .ok (.ireturn, 1) := by decide +kernel
theorem dX3_voteOn_38 : decode cX3_voteOn 38 = .ok (.iconst 2, 1) := by decide +kernel
theorem dX3_voteOn_39 : decode cX3_voteOn 39 = .ok (.ireturn, 1) := by decide +kernel
theorem dX3_voteOn_40 : decode cX3_voteOn 40 = .ok (.aload_n 0, 1) := by decide +kernel
theorem dX3_voteOn_41 : decode cX3_voteOn 41 = .ok (.iload_n 1, 1) := by decide +kernel
theorem dX3_voteOn_42 : decode cX3_voteOn 42 = .ok (.invokevirtual 43, 3) := by decide +kernel
theorem dX3_voteOn_45 : decode cX3_voteOn 45 = .ok (.iconst 4, 1) := by decide +kernel
theorem dX3_voteOn_46 : decode cX3_voteOn 46 = .ok (.ireturn, 1) := by decide +kernel
theorem dX3_voteWhenWorking_0 : decode cX3_voteWhenWorking 0 = .ok (.aload_n 0, 1) := by decide +kernel
theorem dX3_voteWhenWorking_1 : decode cX3_voteWhenWorking 1 = .ok (.getfield 19, 3) := by decide +kernel
theorem dX3_voteWhenWorking_4 : decode cX3_voteWhenWorking 4 = .ok (.iload_n 1, 1) := by decide +kernel
theorem dX3_voteWhenWorking_5 : decode cX3_voteWhenWorking 5 = .ok (.iaload, 1) := by decide +kernel
theorem dX3_voteWhenWorking_6 : decode cX3_voteWhenWorking 6 = .ok (.ifCond .ne 10, 3) := by decide +kernel
theorem dX3_voteWhenWorking_9 : decode cX3_voteWhenWorking 9 = .ok (.aload_n 0, 1) := by decide +kernel
theorem dX3_voteWhenWorking_10 : decode cX3_voteWhenWorking 10 = .ok (.iload_n 1, 1) := by decide +kernel
theorem dX3_voteWhenWorking_11 : decode cX3_voteWhenWorking 11 = .ok (.invokevirtual 47, 3) := by decide +kernel
theorem dX3_voteWhenWorking_14 : decode cX3_voteWhenWorking 14 = .ok (.iconst 3, 1) := by decide +kernel
theorem dX3_voteWhenWorking_15 : decode cX3_voteWhenWorking 15 = .ok (.ireturn, 1) := by decide +kernel
theorem dX3_voteWhenWorking_16 : decode cX3_voteWhenWorking 16 = .ok (.aload_n 0, 1) := by decide +kernel
theorem dX3_voteWhenWorking_17 : decode cX3_voteWhenWorking 17 = .ok (.getfield 25, 3) := by decide +kernel
theorem dX3_voteWhenWorking_20 : decode cX3_voteWhenWorking 20 = .ok (.iload_n 1, 1) := by decide +kernel
theorem dX3_voteWhenWorking_21 : decode cX3_voteWhenWorking 21 = .ok (.iconst 1, 1) := by decide +kernel
theorem dX3_voteWhenWorking_22 : decode cX3_voteWhenWorking 22 = .ok (.aload_n 0, 1) := by decide +kernel
theorem dX3_voteWhenWorking_23 : decode cX3_voteWhenWorking 23 = .ok (.getfield 19, 3) := by decide +kernel
theorem dX3_voteWhenWorking_26 : decode cX3_voteWhenWorking 26 = .ok (.iload_n 1, 1) := by decide +kernel
theorem dX3_voteWhenWorking_27 : decode cX3_voteWhenWorking 27 = .ok (.iaload, 1) := by decide +kernel
theorem dX3_voteWhenWorking_28 : decode cX3_voteWhenWorking 28 = .ok (.invokevirtual 50, 3) := by decide +kernel
theorem dX3_voteWhenWorking_31 : decode cX3_voteWhenWorking 31 = .ok (.aload_n 0, 1) := by decide +kernel
theorem dX3_voteWhenWorking_32 : decode cX3_voteWhenWorking 32 = .ok (.getfield 15, 3) := by decide +kernel
theorem dX3_voteWhenWorking_35 : decode cX3_voteWhenWorking 35 = .ok (.iload_n 1, 1) := by decide +kernel
theorem dX3_voteWhenWorking_36 : decode cX3_voteWhenWorking 36 = .ok (.iconst 3, 1) := by decide +kernel
theorem dX3_voteWhenWorking_37 : decode cX3_voteWhenWorking 37 = .ok (.iastore, 1) := by decide +kernel
theorem dX3_voteWhenWorking_38 : decode cX3_voteWhenWorking 38 = .ok (.iconst 2, 1) := by decide +kernel
theorem dX3_voteWhenWorking_39 : decode cX3_voteWhenWorking 39 = .ok (.ireturn, 1) := by decide +kernel
theorem dX3_letGo_0 : decode cX3_letGo 0 = .ok (.aload_n 0, 1) := by decide +kernel
theorem dX3_letGo_1 : decode cX3_letGo 1 = .ok (.getfield 19, 3) := by decide +kernel
theorem dX3_letGo_4 : decode cX3_letGo 4 = .ok (.iload_n 1, 1) := by decide +kernel
theorem dX3_letGo_5 : decode cX3_letGo 5 = .ok (.iconst 0, 1) := by decide +kernel
theorem dX3_letGo_6 : decode cX3_letGo 6 = .ok (.iastore, 1) := by decide +kernel
theorem dX3_letGo_7 : decode cX3_letGo 7 = .ok (.aload_n 0, 1) := by decide +kernel
theorem dX3_letGo_8 : decode cX3_letGo 8 = .ok (.getfield 15, 3) := by decide +kernel
theorem dX3_letGo_11 : decode cX3_letGo 11 = .ok (.iload_n 1, 1) := by decide +kernel
theorem dX3_letGo_12 : decode cX3_letGo 12 = .ok (.iconst 0, 1) := by decide +kernel
theorem dX3_letGo_13 : decode cX3_letGo 13 = .ok (.iastore, 1) := by decide +kernel
theorem dX3_letGo_14 : decode cX3_letGo 14 = .ok (.return_, 1) := by decide +kernel
theorem dX1_force_0 : decode cX1_force 0 = .ok (.aload_n 0, 1) := by decide +kernel
theorem dX1_force_1 : decode cX1_force 1 = .ok (.iload_n 1, 1) := by decide +kernel
theorem dX1_force_2 : decode cX1_force 2 = .ok (.iload_n 2, 1) := by decide +kernel
theorem dX1_force_3 : decode cX1_force 3 = .ok (.iload_n 3, 1) := by decide +kernel
theorem dX1_force_4 : decode cX1_force 4 = .ok (.invokevirtual 26, 3) := by decide +kernel
theorem dX1_force_7 : decode cX1_force 7 = .ok (.aload_n 0, 1) := by decide +kernel
theorem dX1_force_8 : decode cX1_force 8 = .ok (.aload_n 0, 1) := by decide +kernel
theorem dX1_force_9 : decode cX1_force 9 = .ok (.getfield 18, 3) := by decide +kernel
theorem dX1_force_12 : decode cX1_force 12 = .ok (.putfield 30, 3) := by decide +kernel
theorem dX1_force_15 : decode cX1_force 15 = .ok (.aload_n 0, 1) := by decide +kernel
theorem dX1_force_16 : decode cX1_force 16 = .ok (.dup, 1) := by decide +kernel
theorem dX1_force_17 : decode cX1_force 17 = .ok (.getfield 33, 3) := by decide +kernel
theorem dX1_force_20 : decode cX1_force 20 = .ok (.iconst 1, 1) := by decide +kernel
theorem dX1_force_21 : decode cX1_force 21 = .ok (.iadd, 1) := by decide +kernel
theorem dX1_force_22 : decode cX1_force 22 = .ok (.putfield 33, 3) := by decide +kernel
theorem dX1_force_25 : decode cX1_force 25 = .ok (.return_, 1) := by decide +kernel
theorem dX3_abort_0 : decode cX3_abort 0 = .ok (.aload_n 0, 1) := by decide +kernel
theorem dX3_abort_1 : decode cX3_abort 1 = .ok (.getfield 15, 3) := by decide +kernel
theorem dX3_abort_4 : decode cX3_abort 4 = .ok (.iload_n 1, 1) := by decide +kernel
theorem dX3_abort_5 : decode cX3_abort 5 = .ok (.iaload, 1) := by decide +kernel
theorem dX3_abort_6 : decode cX3_abort 6 = .ok (.ifCond .eq 18, 3) := by decide +kernel
theorem dX3_abort_9 : decode cX3_abort 9 = .ok (.aload_n 0, 1) := by decide +kernel
theorem dX3_abort_10 : decode cX3_abort 10 = .ok (.getfield 25, 3) := by decide +kernel
theorem dX3_abort_13 : decode cX3_abort 13 = .ok (.iload_n 1, 1) := by decide +kernel
theorem dX3_abort_14 : decode cX3_abort 14 = .ok (.iconst 3, 1) := by decide +kernel
theorem dX3_abort_15 : decode cX3_abort 15 = .ok (.iconst 0, 1) := by decide +kernel
theorem dX3_abort_16 : decode cX3_abort 16 = .ok (.invokevirtual 54, 3) := by decide +kernel
theorem dX3_abort_19 : decode cX3_abort 19 = .ok (.aload_n 0, 1) := by decide +kernel
theorem dX3_abort_20 : decode cX3_abort 20 = .ok (.iload_n 1, 1) := by decide +kernel
theorem dX3_abort_21 : decode cX3_abort 21 = .ok (.invokevirtual 47, 3) := by decide +kernel
theorem dX3_abort_24 : decode cX3_abort 24 = .ok (.return_, 1) := by decide +kernel
theorem dX0_hearVote_0 : decode cX0_hearVote 0 = .ok (.aload_n 0, 1) := by decide +kernel
theorem dX0_hearVote_1 : decode cX0_hearVote 1 = .ok (.getfield 18, 3) := by decide +kernel
theorem dX0_hearVote_4 : decode cX0_hearVote 4 = .ok (.iload_n 3, 1) := by decide +kernel
theorem dX0_hearVote_5 : decode cX0_hearVote 5 = .ok (.aaload, 1) := by decide +kernel
theorem dX0_hearVote_6 : decode cX0_hearVote 6 = .ok (.astore 4, 2) := by decide +kernel
theorem dX0_hearVote_8 : decode cX0_hearVote 8 = .ok (.aload 4, 2) := by decide +kernel
theorem dX0_hearVote_10 : decode cX0_hearVote 10 = .ok (.getfield 45, 3) := by decide +kernel
theorem dX0_hearVote_13 : decode cX0_hearVote 13 = .ok (.iconst 2, 1) := by decide +kernel
theorem dX0_hearVote_14 : decode cX0_hearVote 14 = .ok (.if_icmp .ne 15, 3) := by decide +kernel
theorem dX0_hearVote_17 : decode cX0_hearVote 17 = .ok (.aload 4, 2) := by decide +kernel
theorem dX0_hearVote_19 : decode cX0_hearVote 19 = .ok (.getfield 54, 3) := by decide +kernel
theorem dX0_hearVote_22 : decode cX0_hearVote 22 = .ok (.iload_n 2, 1) := by decide +kernel
theorem dX0_hearVote_23 : decode cX0_hearVote 23 = .ok (.invokestatic 57, 3) := by decide +kernel
theorem dX0_hearVote_26 : decode cX0_hearVote 26 = .ok (.ifCond .ne 4, 3) := by decide +kernel
theorem dX0_hearVote_29 : decode cX0_hearVote 29 = .ok (.return_, 1) := by decide +kernel
theorem dX0_hearVote_30 : decode cX0_hearVote 30 = .ok (.iload_n 1, 1) := by decide +kernel
theorem dX0_hearVote_31 : decode cX0_hearVote 31 = .ok (.iconst 4, 1) := by decide +kernel
theorem dX0_hearVote_32 : decode cX0_hearVote 32 = .ok (.if_icmp .ne 14, 3) := by decide +kernel
theorem dX0_hearVote_35 : decode cX0_hearVote 35 = .ok (.aload_n 0, 1) := by decide +kernel
theorem dX0_hearVote_36 : decode cX0_hearVote 36 = .ok (.iload_n 3, 1) := by decide +kernel
theorem dX0_hearVote_37 : decode cX0_hearVote 37 = .ok (.iload_n 2, 1) := by decide +kernel
theorem dX0_hearVote_38 : decode cX0_hearVote 38 = .ok (.invokestatic 65, 3) := by decide +kernel
theorem dX0_hearVote_41 : decode cX0_hearVote 41 = .ok (.invokevirtual 84, 3) := by decide +kernel
theorem dX0_hearVote_44 : decode cX0_hearVote 44 = .ok (.pop, 1) := by decide +kernel
theorem dX0_hearVote_45 : decode cX0_hearVote 45 = .ok (.return_, 1) := by decide +kernel
theorem dX0_hearVote_46 : decode cX0_hearVote 46 = .ok (.iload_n 1, 1) := by decide +kernel
theorem dX0_hearVote_47 : decode cX0_hearVote 47 = .ok (.iconst 2, 1) := by decide +kernel
theorem dX0_hearVote_48 : decode cX0_hearVote 48 = .ok (.if_icmp .ne 20, 3) := by decide +kernel
theorem dX0_hearVote_51 : decode cX0_hearVote 51 = .ok (.aload 4, 2) := by decide +kernel
theorem dX0_hearVote_53 : decode cX0_hearVote 53 = .ok (.dup, 1) := by decide +kernel
theorem dX0_hearVote_54 : decode cX0_hearVote 54 = .ok (.getfield 127, 3) := by decide +kernel
theorem dX0_hearVote_57 : decode cX0_hearVote 57 = .ok (.iload_n 2, 1) := by decide +kernel
theorem dX0_hearVote_58 : decode cX0_hearVote 58 = .ok (.invokestatic 65, 3) := by decide +kernel
theorem dX0_hearVote_61 : decode cX0_hearVote 61 = .ok (.ior, 1) := by decide +kernel
theorem dX0_hearVote_62 : decode cX0_hearVote 62 = .ok (.putfield 127, 3) := by decide +kernel
theorem dX0_hearVote_65 : decode cX0_hearVote 65 = .ok (.goto 17, 3) := by decide +kernel
theorem dX0_hearVote_68 : decode cX0_hearVote 68 = .ok (.aload 4, 2) := by decide +kernel
theorem dX0_hearVote_70 : decode cX0_hearVote 70 = .ok (.dup, 1) := by decide +kernel
theorem dX0_hearVote_71 : decode cX0_hearVote 71 = .ok (.getfield 130, 3) := by decide +kernel
theorem dX0_hearVote_74 : decode cX0_hearVote 74 = .ok (.iload_n 2, 1) := by decide +kernel
theorem dX0_hearVote_75 : decode cX0_hearVote 75 = .ok (.invokestatic 65, 3) := by decide +kernel
theorem dX0_hearVote_78 : decode cX0_hearVote 78 = .ok (.ior, 1) := by decide +kernel
theorem dX0_hearVote_79 : decode cX0_hearVote 79 = .ok (.putfield 130, 3) := by decide +kernel
theorem dX0_hearVote_82 : decode cX0_hearVote 82 = .ok (.aload 4, 2) := by decide +kernel
theorem dX0_hearVote_84 : decode cX0_hearVote 84 = .ok (.invokevirtual 179, 3) := by decide +kernel
theorem dX0_hearVote_87 : decode cX0_hearVote 87 = .ok (.ifCond .eq 8, 3) := by decide +kernel
theorem dX0_hearVote_90 : decode cX0_hearVote 90 = .ok (.aload_n 0, 1) := by decide +kernel
theorem dX0_hearVote_91 : decode cX0_hearVote 91 = .ok (.iload_n 3, 1) := by decide +kernel
theorem dX0_hearVote_92 : decode cX0_hearVote 92 = .ok (.invokevirtual 183, 3) := by decide +kernel
theorem dX0_hearVote_95 : decode cX0_hearVote 95 = .ok (.return_, 1) := by decide +kernel
theorem dX4_hasAllVotes_0 : decode cX4_hasAllVotes 0 = .ok (.aload_n 0, 1) := by decide +kernel
theorem dX4_hasAllVotes_1 : decode cX4_hasAllVotes 1 = .ok (.getfield 9, 3) := by decide +kernel
theorem dX4_hasAllVotes_4 : decode cX4_hasAllVotes 4 = .ok (.aload_n 0, 1) := by decide +kernel
theorem dX4_hasAllVotes_5 : decode cX4_hasAllVotes 5 = .ok (.getfield 15, 3) := by decide +kernel
theorem dX4_hasAllVotes_8 : decode cX4_hasAllVotes 8 = .ok (.aload_n 0, 1) := by decide +kernel
theorem dX4_hasAllVotes_9 : decode cX4_hasAllVotes 9 = .ok (.getfield 18, 3) := by decide +kernel
theorem dX4_hasAllVotes_12 : decode cX4_hasAllVotes 12 = .ok (.ior, 1) := by decide +kernel
theorem dX4_hasAllVotes_13 : decode cX4_hasAllVotes 13 = .ok (.iconst (-1), 1) := by decide +kernel
theorem dX4_hasAllVotes_14 : decode cX4_hasAllVotes 14 = .ok (.ixor, 1) := by decide +kernel
theorem dX4_hasAllVotes_15 : decode cX4_hasAllVotes 15 = .ok (.iand, 1) := by decide +kernel
theorem dX4_hasAllVotes_16 : decode cX4_hasAllVotes 16 = .ok (.ifCond .ne 7, 3) := by decide +kernel
theorem dX4_hasAllVotes_19 : decode cX4_hasAllVotes 19 = .ok (.iconst 1, 1) := by decide +kernel
theorem dX4_hasAllVotes_20 : decode cX4_hasAllVotes 20 = .ok (.goto 4, 3) := by decide +kernel
theorem dX4_hasAllVotes_23 : decode cX4_hasAllVotes 23 = .ok (.iconst 0, 1) := by decide +kernel
theorem dX4_hasAllVotes_24 : decode cX4_hasAllVotes 24 = .ok (.ireturn, 1) := by decide +kernel
theorem dX0_decide_0 : decode cX0_decide 0 = .ok (.aload_n 0, 1) := by decide +kernel
theorem dX0_decide_1 : decode cX0_decide 1 = .ok (.getfield 18, 3) := by decide +kernel
theorem dX0_decide_4 : decode cX0_decide 4 = .ok (.iload_n 1, 1) := by decide +kernel
theorem dX0_decide_5 : decode cX0_decide 5 = .ok (.aaload, 1) := by decide +kernel
theorem dX0_decide_6 : decode cX0_decide 6 = .ok (.astore_n 2, 1) := by decide +kernel
theorem dX0_decide_7 : decode cX0_decide 7 = .ok (.aload_n 2, 1) := by decide +kernel
theorem dX0_decide_8 : decode cX0_decide 8 = .ok (.getfield 127, 3) := by decide +kernel
theorem dX0_decide_11 : decode cX0_decide 11 = .ok (.ifCond .ne 8, 3) := by decide +kernel
theorem dX0_decide_14 : decode cX0_decide 14 = .ok (.aload_n 2, 1) := by decide +kernel
theorem dX0_decide_15 : decode cX0_decide 15 = .ok (.invokevirtual 72, 3) := by decide +kernel
theorem dX0_decide_18 : decode cX0_decide 18 = .ok (.return_, 1) := by decide +kernel
theorem dX0_decide_19 : decode cX0_decide 19 = .ok (.aload_n 2, 1) := by decide +kernel
theorem dX0_decide_20 : decode cX0_decide 20 = .ok (.aload_n 2, 1) := by decide +kernel
theorem dX0_decide_21 : decode cX0_decide 21 = .ok (.getfield 127, 3) := by decide +kernel
theorem dX0_decide_24 : decode cX0_decide 24 = .ok (.putfield 133, 3) := by decide +kernel
theorem dX0_decide_27 : decode cX0_decide 27 = .ok (.aload_n 0, 1) := by decide +kernel
theorem dX0_decide_28 : decode cX0_decide 28 = .ok (.getfield 11, 3) := by decide +kernel
theorem dX0_decide_31 : decode cX0_decide 31 = .ok (.aload_n 2, 1) := by decide +kernel
theorem dX0_decide_32 : decode cX0_decide 32 = .ok (.getfield 42, 3) := by decide +kernel
theorem dX0_decide_35 : decode cX0_decide 35 = .ok (.aaload, 1) := by decide +kernel
theorem dX0_decide_36 : decode cX0_decide 36 = .ok (.getfield 111, 3) := by decide +kernel
theorem dX0_decide_39 : decode cX0_decide 39 = .ok (.iload_n 1, 1) := by decide +kernel
theorem dX0_decide_40 : decode cX0_decide 40 = .ok (.iconst 4, 1) := by decide +kernel
theorem dX0_decide_41 : decode cX0_decide 41 = .ok (.aload_n 2, 1) := by decide +kernel
theorem dX0_decide_42 : decode cX0_decide 42 = .ok (.getfield 133, 3) := by decide +kernel
theorem dX0_decide_45 : decode cX0_decide 45 = .ok (.invokevirtual 186, 3) := by decide +kernel
theorem dX0_decide_48 : decode cX0_decide 48 = .ok (.aload_n 2, 1) := by decide +kernel
theorem dX0_decide_49 : decode cX0_decide 49 = .ok (.iconst 3, 1) := by decide +kernel
theorem dX0_decide_50 : decode cX0_decide 50 = .ok (.putfield 45, 3) := by decide +kernel
theorem dX0_decide_53 : decode cX0_decide 53 = .ok (.aload_n 0, 1) := by decide +kernel
theorem dX0_decide_54 : decode cX0_decide 54 = .ok (.getfield 26, 3) := by decide +kernel
theorem dX0_decide_57 : decode cX0_decide 57 = .ok (.iconst 5, 1) := by decide +kernel
theorem dX0_decide_58 : decode cX0_decide 58 = .ok (.aload_n 2, 1) := by decide +kernel
theorem dX0_decide_59 : decode cX0_decide 59 = .ok (.getfield 42, 3) := by decide +kernel
theorem dX0_decide_62 : decode cX0_decide 62 = .ok (.aload_n 2, 1) := by decide +kernel
theorem dX0_decide_63 : decode cX0_decide 63 = .ok (.getfield 133, 3) := by decide +kernel
theorem dX0_decide_66 : decode cX0_decide 66 = .ok (.iload_n 1, 1) := by decide +kernel
theorem dX0_decide_67 : decode cX0_decide 67 = .ok (.invokevirtual 75, 3) := by decide +kernel
theorem dX0_decide_70 : decode cX0_decide 70 = .ok (.return_, 1) := by decide +kernel
theorem dX3_finishCommit_0 : decode cX3_finishCommit 0 = .ok (.aload_n 0, 1) := by decide +kernel
theorem dX3_finishCommit_1 : decode cX3_finishCommit 1 = .ok (.getfield 15, 3) := by decide +kernel
theorem dX3_finishCommit_4 : decode cX3_finishCommit 4 = .ok (.iload_n 1, 1) := by decide +kernel
theorem dX3_finishCommit_5 : decode cX3_finishCommit 5 = .ok (.iaload, 1) := by decide +kernel
theorem dX3_finishCommit_6 : decode cX3_finishCommit 6 = .ok (.iconst 3, 1) := by decide +kernel
theorem dX3_finishCommit_7 : decode cX3_finishCommit 7 = .ok (.if_icmp .ne 18, 3) := by decide +kernel
theorem dX3_finishCommit_10 : decode cX3_finishCommit 10 = .ok (.aload_n 0, 1) := by decide +kernel
theorem dX3_finishCommit_11 : decode cX3_finishCommit 11 = .ok (.getfield 25, 3) := by decide +kernel
theorem dX3_finishCommit_14 : decode cX3_finishCommit 14 = .ok (.iload_n 1, 1) := by decide +kernel
theorem dX3_finishCommit_15 : decode cX3_finishCommit 15 = .ok (.iconst 2, 1) := by decide +kernel
theorem dX3_finishCommit_16 : decode cX3_finishCommit 16 = .ok (.iconst 0, 1) := by decide +kernel
theorem dX3_finishCommit_17 : decode cX3_finishCommit 17 = .ok (.invokevirtual 50, 3) := by decide +kernel
theorem dX3_finishCommit_20 : decode cX3_finishCommit 20 = .ok (.aload_n 0, 1) := by decide +kernel
theorem dX3_finishCommit_21 : decode cX3_finishCommit 21 = .ok (.iload_n 1, 1) := by decide +kernel
theorem dX3_finishCommit_22 : decode cX3_finishCommit 22 = .ok (.invokevirtual 47, 3) := by decide +kernel
theorem dX3_finishCommit_25 : decode cX3_finishCommit 25 = .ok (.return_, 1) := by decide +kernel
theorem dX0_hearAck_0 : decode cX0_hearAck 0 = .ok (.aload_n 0, 1) := by decide +kernel
theorem dX0_hearAck_1 : decode cX0_hearAck 1 = .ok (.getfield 18, 3) := by decide +kernel
theorem dX0_hearAck_4 : decode cX0_hearAck 4 = .ok (.iload_n 2, 1) := by decide +kernel
theorem dX0_hearAck_5 : decode cX0_hearAck 5 = .ok (.aaload, 1) := by decide +kernel
theorem dX0_hearAck_6 : decode cX0_hearAck 6 = .ok (.astore_n 3, 1) := by decide +kernel
theorem dX0_hearAck_7 : decode cX0_hearAck 7 = .ok (.aload_n 3, 1) := by decide +kernel
theorem dX0_hearAck_8 : decode cX0_hearAck 8 = .ok (.getfield 45, 3) := by decide +kernel
theorem dX0_hearAck_11 : decode cX0_hearAck 11 = .ok (.iconst 3, 1) := by decide +kernel
theorem dX0_hearAck_12 : decode cX0_hearAck 12 = .ok (.if_icmp .eq 4, 3) := by decide +kernel
theorem dX0_hearAck_15 : decode cX0_hearAck 15 = .ok (.return_, 1) := by decide +kernel
theorem dX0_hearAck_16 : decode cX0_hearAck 16 = .ok (.aload_n 3, 1) := by decide +kernel
theorem dX0_hearAck_17 : decode cX0_hearAck 17 = .ok (.dup, 1) := by decide +kernel
theorem dX0_hearAck_18 : decode cX0_hearAck 18 = .ok (.getfield 133, 3) := by decide +kernel
theorem dX0_hearAck_21 : decode cX0_hearAck 21 = .ok (.iload_n 1, 1) := by decide +kernel
theorem dX0_hearAck_22 : decode cX0_hearAck 22 = .ok (.invokestatic 65, 3) := by decide +kernel
theorem dX0_hearAck_25 : decode cX0_hearAck 25 = .ok (.iconst (-1), 1) := by decide +kernel
theorem dX0_hearAck_26 : decode cX0_hearAck 26 = .ok (.ixor, 1) := by decide +kernel
theorem dX0_hearAck_27 : decode cX0_hearAck 27 = .ok (.iand, 1) := by decide +kernel
theorem dX0_hearAck_28 : decode cX0_hearAck 28 = .ok (.putfield 133, 3) := by decide +kernel
theorem dX0_hearAck_31 : decode cX0_hearAck 31 = .ok (.aload_n 3, 1) := by decide +kernel
theorem dX0_hearAck_32 : decode cX0_hearAck 32 = .ok (.getfield 133, 3) := by decide +kernel
theorem dX0_hearAck_35 : decode cX0_hearAck 35 = .ok (.ifCond .ne 26, 3) := by decide +kernel
theorem dX0_hearAck_38 : decode cX0_hearAck 38 = .ok (.aload_n 0, 1) := by decide +kernel
theorem dX0_hearAck_39 : decode cX0_hearAck 39 = .ok (.getfield 11, 3) := by decide +kernel
theorem dX0_hearAck_42 : decode cX0_hearAck 42 = .ok (.aload_n 3, 1) := by decide +kernel
theorem dX0_hearAck_43 : decode cX0_hearAck 43 = .ok (.getfield 42, 3) := by decide +kernel
theorem dX0_hearAck_46 : decode cX0_hearAck 46 = .ok (.aaload, 1) := by decide +kernel
theorem dX0_hearAck_47 : decode cX0_hearAck 47 = .ok (.getfield 111, 3) := by decide +kernel
theorem dX0_hearAck_50 : decode cX0_hearAck 50 = .ok (.iload_n 2, 1) := by decide +kernel
theorem dX0_hearAck_51 : decode cX0_hearAck 51 = .ok (.bipush 6, 2) := by decide +kernel
theorem dX0_hearAck_53 : decode cX0_hearAck 53 = .ok (.iconst 0, 1) := by decide +kernel
theorem dX0_hearAck_54 : decode cX0_hearAck 54 = .ok (.invokevirtual 189, 3) := by decide +kernel
theorem dX0_hearAck_57 : decode cX0_hearAck 57 = .ok (.aload_n 3, 1) := by decide +kernel
theorem dX0_hearAck_58 : decode cX0_hearAck 58 = .ok (.invokevirtual 72, 3) := by decide +kernel
theorem dX0_hearAck_61 : decode cX0_hearAck 61 = .ok (.return_, 1) := by decide +kernel
theorem dX0_hearInquiry_0 : decode cX0_hearInquiry 0 = .ok (.aload_n 0, 1) := by decide +kernel
theorem dX0_hearInquiry_1 : decode cX0_hearInquiry 1 = .ok (.getfield 18, 3) := by decide +kernel
theorem dX0_hearInquiry_4 : decode cX0_hearInquiry 4 = .ok (.iload_n 3, 1) := by decide +kernel
theorem dX0_hearInquiry_5 : decode cX0_hearInquiry 5 = .ok (.aaload, 1) := by decide +kernel
theorem dX0_hearInquiry_6 : decode cX0_hearInquiry 6 = .ok (.getfield 45, 3) := by decide +kernel
theorem dX0_hearInquiry_9 : decode cX0_hearInquiry 9 = .ok (.istore 4, 2) := by decide +kernel
theorem dX0_hearInquiry_11 : decode cX0_hearInquiry 11 = .ok (.iload 4, 2) := by decide +kernel
theorem dX0_hearInquiry_13 : decode cX0_hearInquiry 13 = .ok (.iconst 3, 1) := by decide +kernel
theorem dX0_hearInquiry_14 : decode cX0_hearInquiry 14 = .ok (.if_icmp .ne 17, 3) := by decide +kernel
theorem dX0_hearInquiry_17 : decode cX0_hearInquiry 17 = .ok (.aload_n 0, 1) := by decide +kernel
theorem dX0_hearInquiry_18 : decode cX0_hearInquiry 18 = .ok (.getfield 26, 3) := by decide +kernel
theorem dX0_hearInquiry_21 : decode cX0_hearInquiry 21 = .ok (.iconst 5, 1) := by decide +kernel
theorem dX0_hearInquiry_22 : decode cX0_hearInquiry 22 = .ok (.iload_n 2, 1) := by decide +kernel
theorem dX0_hearInquiry_23 : decode cX0_hearInquiry 23 = .ok (.iload_n 1, 1) := by decide +kernel
theorem dX0_hearInquiry_24 : decode cX0_hearInquiry 24 = .ok (.iload_n 3, 1) := by decide +kernel
theorem dX0_hearInquiry_25 : decode cX0_hearInquiry 25 = .ok (.invokevirtual 159, 3) := by decide +kernel
theorem dX0_hearInquiry_28 : decode cX0_hearInquiry 28 = .ok (.goto 20, 3) := by decide +kernel
theorem dX0_hearInquiry_31 : decode cX0_hearInquiry 31 = .ok (.iload 4, 2) := by decide +kernel
theorem dX0_hearInquiry_33 : decode cX0_hearInquiry 33 = .ok (.ifCond .ne 15, 3) := by decide +kernel
theorem dX0_hearInquiry_36 : decode cX0_hearInquiry 36 = .ok (.aload_n 0, 1) := by decide +kernel
theorem dX0_hearInquiry_37 : decode cX0_hearInquiry 37 = .ok (.getfield 26, 3) := by decide +kernel
theorem dX0_hearInquiry_40 : decode cX0_hearInquiry 40 = .ok (.bipush 6, 2) := by decide +kernel
theorem dX0_hearInquiry_42 : decode cX0_hearInquiry 42 = .ok (.iload_n 2, 1) := by decide +kernel
theorem dX0_hearInquiry_43 : decode cX0_hearInquiry 43 = .ok (.iload_n 1, 1) := by decide +kernel
theorem dX0_hearInquiry_44 : decode cX0_hearInquiry 44 = .ok (.iload_n 3, 1) := by decide +kernel
theorem dX0_hearInquiry_45 : decode cX0_hearInquiry 45 = .ok (.invokevirtual 159, 3) := by decide +kernel
theorem dX0_hearInquiry_48 : decode cX0_hearInquiry 48 = .ok (.return_, 1) := by decide +kernel
theorem dX0_lose_0 : decode cX0_lose 0 = .ok (.aload_n 0, 1) := by decide +kernel
theorem dX0_lose_1 : decode cX0_lose 1 = .ok (.getfield 26, 3) := by decide +kernel
theorem dX0_lose_4 : decode cX0_lose 4 = .ok (.iload_n 1, 1) := by decide +kernel
theorem dX0_lose_5 : decode cX0_lose 5 = .ok (.invokevirtual 88, 3) := by decide +kernel
theorem dX0_lose_8 : decode cX0_lose 8 = .ok (.ifCond .ne 6, 3) := by decide +kernel
theorem dX0_lose_11 : decode cX0_lose 11 = .ok (.bipush (-2), 2) := by decide +kernel
theorem dX0_lose_13 : decode cX0_lose 13 = .ok (.ireturn, 1) := by decide +kernel
theorem dX0_lose_14 : decode cX0_lose 14 = .ok (.aload_n 0, 1) := by decide +kernel
theorem dX0_lose_15 : decode cX0_lose 15 = .ok (.getfield 26, 3) := by decide +kernel
theorem dX0_lose_18 : decode cX0_lose 18 = .ok (.getfield 91, 3) := by decide +kernel
theorem dX0_lose_21 : decode cX0_lose 21 = .ok (.iconst 0, 1) := by decide +kernel
theorem dX0_lose_22 : decode cX0_lose 22 = .ok (.aaload, 1) := by decide +kernel
theorem dX0_lose_23 : decode cX0_lose 23 = .ok (.iload_n 1, 1) := by decide +kernel
theorem dX0_lose_24 : decode cX0_lose 24 = .ok (.iaload, 1) := by decide +kernel
theorem dX0_lose_25 : decode cX0_lose 25 = .ok (.istore_n 2, 1) := by decide +kernel
theorem dX0_lose_26 : decode cX0_lose 26 = .ok (.aload_n 0, 1) := by decide +kernel
theorem dX0_lose_27 : decode cX0_lose 27 = .ok (.getfield 26, 3) := by decide +kernel
theorem dX0_lose_30 : decode cX0_lose 30 = .ok (.iload_n 1, 1) := by decide +kernel
theorem dX0_lose_31 : decode cX0_lose 31 = .ok (.invokevirtual 95, 3) := by decide +kernel
theorem dX0_lose_34 : decode cX0_lose 34 = .ok (.iload_n 2, 1) := by decide +kernel
theorem dX0_lose_35 : decode cX0_lose 35 = .ok (.ireturn, 1) := by decide +kernel
theorem dX0_expire_0 : decode cX0_expire 0 = .ok (.iload_n 1, 1) := by decide +kernel
theorem dX0_expire_1 : decode cX0_expire 1 = .ok (.invokestatic 34, 3) := by decide +kernel
theorem dX0_expire_4 : decode cX0_expire 4 = .ok (.ifCond .eq 11, 3) := by decide +kernel
theorem dX0_expire_7 : decode cX0_expire 7 = .ok (.aload_n 0, 1) := by decide +kernel
theorem dX0_expire_8 : decode cX0_expire 8 = .ok (.iload_n 2, 1) := by decide +kernel
theorem dX0_expire_9 : decode cX0_expire 9 = .ok (.invokevirtual 48, 3) := by decide +kernel
theorem dX0_expire_12 : decode cX0_expire 12 = .ok (.ifCond .ne 6, 3) := by decide +kernel
theorem dX0_expire_15 : decode cX0_expire 15 = .ok (.bipush (-2), 2) := by decide +kernel
theorem dX0_expire_17 : decode cX0_expire 17 = .ok (.ireturn, 1) := by decide +kernel
theorem dX0_expire_18 : decode cX0_expire 18 = .ok (.iload_n 3, 1) := by decide +kernel
theorem dX0_expire_19 : decode cX0_expire 19 = .ok (.ifCond .ne 19, 3) := by decide +kernel
theorem dX0_expire_22 : decode cX0_expire 22 = .ok (.aload_n 0, 1) := by decide +kernel
theorem dX0_expire_23 : decode cX0_expire 23 = .ok (.getfield 18, 3) := by decide +kernel
theorem dX0_expire_26 : decode cX0_expire 26 = .ok (.iload_n 2, 1) := by decide +kernel
theorem dX0_expire_27 : decode cX0_expire 27 = .ok (.aaload, 1) := by decide +kernel
theorem dX0_expire_28 : decode cX0_expire 28 = .ok (.getfield 42, 3) := by decide +kernel
theorem dX0_expire_31 : decode cX0_expire 31 = .ok (.iload_n 1, 1) := by decide +kernel
theorem dX0_expire_32 : decode cX0_expire 32 = .ok (.if_icmp .eq 6, 3) := by decide +kernel
theorem dX0_expire_35 : decode cX0_expire 35 = .ok (.bipush (-2), 2) := by decide +kernel
theorem dX0_expire_37 : decode cX0_expire 37 = .ok (.ireturn, 1) := by decide +kernel
theorem dX0_expire_38 : decode cX0_expire 38 = .ok (.aload_n 0, 1) := by decide +kernel
theorem dX0_expire_39 : decode cX0_expire 39 = .ok (.getfield 11, 3) := by decide +kernel
theorem dX0_expire_42 : decode cX0_expire 42 = .ok (.iload_n 1, 1) := by decide +kernel
theorem dX0_expire_43 : decode cX0_expire 43 = .ok (.aaload, 1) := by decide +kernel
theorem dX0_expire_44 : decode cX0_expire 44 = .ok (.getfield 38, 3) := by decide +kernel
theorem dX0_expire_47 : decode cX0_expire 47 = .ok (.ifCond .ne 6, 3) := by decide +kernel
theorem dX0_expire_50 : decode cX0_expire 50 = .ok (.bipush (-3), 2) := by decide +kernel
theorem dX0_expire_52 : decode cX0_expire 52 = .ok (.ireturn, 1) := by decide +kernel
theorem dX0_expire_53 : decode cX0_expire 53 = .ok (.iload_n 3, 1) := by decide +kernel
theorem dX0_expire_54 : decode cX0_expire 54 = .ok (.ifCond .eq 12, 3) := by decide +kernel
theorem dX0_expire_57 : decode cX0_expire 57 = .ok (.aload_n 0, 1) := by decide +kernel
theorem dX0_expire_58 : decode cX0_expire 58 = .ok (.iload_n 1, 1) := by decide +kernel
theorem dX0_expire_59 : decode cX0_expire 59 = .ok (.iload_n 2, 1) := by decide +kernel
theorem dX0_expire_60 : decode cX0_expire 60 = .ok (.invokevirtual 102, 3) := by decide +kernel
theorem dX0_expire_63 : decode cX0_expire 63 = .ok (.goto 8, 3) := by decide +kernel
theorem dX0_expire_66 : decode cX0_expire 66 = .ok (.aload_n 0, 1) := by decide +kernel
theorem dX0_expire_67 : decode cX0_expire 67 = .ok (.iload_n 2, 1) := by decide +kernel
theorem dX0_expire_68 : decode cX0_expire 68 = .ok (.invokevirtual 105, 3) := by decide +kernel
theorem dX0_expire_71 : decode cX0_expire 71 = .ok (.ireturn, 1) := by decide +kernel
theorem dX0_expireAsMember_0 : decode cX0_expireAsMember 0 = .ok (.aload_n 0, 1) := by decide +kernel
theorem dX0_expireAsMember_1 : decode cX0_expireAsMember 1 = .ok (.getfield 11, 3) := by decide +kernel
theorem dX0_expireAsMember_4 : decode cX0_expireAsMember 4 = .ok (.iload_n 1, 1) := by decide +kernel
theorem dX0_expireAsMember_5 : decode cX0_expireAsMember 5 = .ok (.aaload, 1) := by decide +kernel
theorem dX0_expireAsMember_6 : decode cX0_expireAsMember 6 = .ok (.astore_n 3, 1) := by decide +kernel
theorem dX0_expireAsMember_7 : decode cX0_expireAsMember 7 = .ok (.aload_n 3, 1) := by decide +kernel
theorem dX0_expireAsMember_8 : decode cX0_expireAsMember 8 = .ok (.getfield 61, 3) := by decide +kernel
theorem dX0_expireAsMember_11 : decode cX0_expireAsMember 11 = .ok (.iload_n 2, 1) := by decide +kernel
theorem dX0_expireAsMember_12 : decode cX0_expireAsMember 12 = .ok (.iaload, 1) := by decide +kernel
theorem dX0_expireAsMember_13 : decode cX0_expireAsMember 13 = .ok (.ifCond .ne 6, 3) := by decide +kernel
theorem dX0_expireAsMember_16 : decode cX0_expireAsMember 16 = .ok (.bipush (-4), 2) := by decide +kernel
theorem dX0_expireAsMember_18 : decode cX0_expireAsMember 18 = .ok (.ireturn, 1) := by decide +kernel
theorem dX0_expireAsMember_19 : decode cX0_expireAsMember 19 = .ok (.aload_n 3, 1) := by decide +kernel
theorem dX0_expireAsMember_20 : decode cX0_expireAsMember 20 = .ok (.getfield 61, 3) := by decide +kernel
theorem dX0_expireAsMember_23 : decode cX0_expireAsMember 23 = .ok (.iload_n 2, 1) := by decide +kernel
theorem dX0_expireAsMember_24 : decode cX0_expireAsMember 24 = .ok (.iaload, 1) := by decide +kernel
theorem dX0_expireAsMember_25 : decode cX0_expireAsMember 25 = .ok (.iconst 3, 1) := by decide +kernel
theorem dX0_expireAsMember_26 : decode cX0_expireAsMember 26 = .ok (.if_icmp .ne 26, 3) := by decide +kernel
theorem dX0_expireAsMember_29 : decode cX0_expireAsMember 29 = .ok (.aload_n 0, 1) := by decide +kernel
theorem dX0_expireAsMember_30 : decode cX0_expireAsMember 30 = .ok (.getfield 26, 3) := by decide +kernel
theorem dX0_expireAsMember_33 : decode cX0_expireAsMember 33 = .ok (.bipush 8, 2) := by decide +kernel
theorem dX0_expireAsMember_35 : decode cX0_expireAsMember 35 = .ok (.iload_n 1, 1) := by decide +kernel
theorem dX0_expireAsMember_36 : decode cX0_expireAsMember 36 = .ok (.aload_n 0, 1) := by decide +kernel
theorem dX0_expireAsMember_37 : decode cX0_expireAsMember 37 = .ok (.getfield 18, 3) := by decide +kernel
theorem dX0_expireAsMember_40 : decode cX0_expireAsMember 40 = .ok (.iload_n 2, 1) := by decide +kernel
theorem dX0_expireAsMember_41 : decode cX0_expireAsMember 41 = .ok (.aaload, 1) := by decide +kernel
theorem dX0_expireAsMember_42 : decode cX0_expireAsMember 42 = .ok (.getfield 42, 3) := by decide +kernel
theorem dX0_expireAsMember_45 : decode cX0_expireAsMember 45 = .ok (.iload_n 2, 1) := by decide +kernel
theorem dX0_expireAsMember_46 : decode cX0_expireAsMember 46 = .ok (.invokevirtual 159, 3) := by decide +kernel
theorem dX0_expireAsMember_49 : decode cX0_expireAsMember 49 = .ok (.goto 8, 3) := by decide +kernel
theorem dX0_expireAsMember_52 : decode cX0_expireAsMember 52 = .ok (.aload_n 3, 1) := by decide +kernel
theorem dX0_expireAsMember_53 : decode cX0_expireAsMember 53 = .ok (.iload_n 2, 1) := by decide +kernel
theorem dX0_expireAsMember_54 : decode cX0_expireAsMember 54 = .ok (.invokevirtual 169, 3) := by decide +kernel
theorem dX0_expireAsMember_57 : decode cX0_expireAsMember 57 = .ok (.iconst 1, 1) := by decide +kernel
theorem dX0_expireAsMember_58 : decode cX0_expireAsMember 58 = .ok (.ireturn, 1) := by decide +kernel
theorem dX0_expireAsCoordinator_0 : decode cX0_expireAsCoordinator 0 = .ok (.aload_n 0, 1) := by decide +kernel
theorem dX0_expireAsCoordinator_1 : decode cX0_expireAsCoordinator 1 = .ok (.getfield 18, 3) := by decide +kernel
theorem dX0_expireAsCoordinator_4 : decode cX0_expireAsCoordinator 4 = .ok (.iload_n 1, 1) := by decide +kernel
theorem dX0_expireAsCoordinator_5 : decode cX0_expireAsCoordinator 5 = .ok (.aaload, 1) := by decide +kernel
theorem dX0_expireAsCoordinator_6 : decode cX0_expireAsCoordinator 6 = .ok (.astore_n 2, 1) := by decide +kernel
theorem dX0_expireAsCoordinator_7 : decode cX0_expireAsCoordinator 7 = .ok (.aload_n 2, 1) := by decide +kernel
theorem dX0_expireAsCoordinator_8 : decode cX0_expireAsCoordinator 8 = .ok (.getfield 45, 3) := by decide +kernel
theorem dX0_expireAsCoordinator_11 : decode cX0_expireAsCoordinator 11 = .ok (.iconst 2, 1) := by decide +kernel
theorem dX0_expireAsCoordinator_12 : decode cX0_expireAsCoordinator 12 = .ok (.if_icmp .ne 12, 3) := by decide +kernel
theorem dX0_expireAsCoordinator_15 : decode cX0_expireAsCoordinator 15 = .ok (.aload_n 0, 1) := by decide +kernel
theorem dX0_expireAsCoordinator_16 : decode cX0_expireAsCoordinator 16 = .ok (.iload_n 1, 1) := by decide +kernel
theorem dX0_expireAsCoordinator_17 : decode cX0_expireAsCoordinator 17 = .ok (.iconst 0, 1) := by decide +kernel
theorem dX0_expireAsCoordinator_18 : decode cX0_expireAsCoordinator 18 = .ok (.invokevirtual 84, 3) := by decide +kernel
theorem dX0_expireAsCoordinator_21 : decode cX0_expireAsCoordinator 21 = .ok (.pop, 1) := by decide +kernel
theorem dX0_expireAsCoordinator_22 : decode cX0_expireAsCoordinator 22 = .ok (.iconst 1, 1) := by decide +kernel
theorem dX0_expireAsCoordinator_23 : decode cX0_expireAsCoordinator 23 = .ok (.ireturn, 1) := by decide +kernel
theorem dX0_expireAsCoordinator_24 : decode cX0_expireAsCoordinator 24 = .ok (.aload_n 2, 1) := by decide +kernel
theorem dX0_expireAsCoordinator_25 : decode cX0_expireAsCoordinator 25 = .ok (.getfield 45, 3) := by decide +kernel
theorem dX0_expireAsCoordinator_28 : decode cX0_expireAsCoordinator 28 = .ok (.iconst 3, 1) := by decide +kernel
theorem dX0_expireAsCoordinator_29 : decode cX0_expireAsCoordinator 29 = .ok (.if_icmp .ne 22, 3) := by decide +kernel
theorem dX0_expireAsCoordinator_32 : decode cX0_expireAsCoordinator 32 = .ok (.aload_n 0, 1) := by decide +kernel
theorem dX0_expireAsCoordinator_33 : decode cX0_expireAsCoordinator 33 = .ok (.getfield 26, 3) := by decide +kernel
theorem dX0_expireAsCoordinator_36 : decode cX0_expireAsCoordinator 36 = .ok (.iconst 5, 1) := by decide +kernel
theorem dX0_expireAsCoordinator_37 : decode cX0_expireAsCoordinator 37 = .ok (.aload_n 2, 1) := by decide +kernel
theorem dX0_expireAsCoordinator_38 : decode cX0_expireAsCoordinator 38 = .ok (.getfield 42, 3) := by decide +kernel
theorem dX0_expireAsCoordinator_41 : decode cX0_expireAsCoordinator 41 = .ok (.aload_n 2, 1) := by decide +kernel
theorem dX0_expireAsCoordinator_42 : decode cX0_expireAsCoordinator 42 = .ok (.getfield 133, 3) := by decide +kernel
theorem dX0_expireAsCoordinator_45 : decode cX0_expireAsCoordinator 45 = .ok (.iload_n 1, 1) := by decide +kernel
theorem dX0_expireAsCoordinator_46 : decode cX0_expireAsCoordinator 46 = .ok (.invokevirtual 75, 3) := by decide +kernel
theorem dX0_expireAsCoordinator_49 : decode cX0_expireAsCoordinator 49 = .ok (.iconst 1, 1) := by decide +kernel
theorem dX0_expireAsCoordinator_50 : decode cX0_expireAsCoordinator 50 = .ok (.ireturn, 1) := by decide +kernel
theorem dX0_expireAsCoordinator_51 : decode cX0_expireAsCoordinator 51 = .ok (.bipush (-4), 2) := by decide +kernel
theorem dX0_expireAsCoordinator_53 : decode cX0_expireAsCoordinator 53 = .ok (.ireturn, 1) := by decide +kernel
theorem dX0_crash_0 : decode cX0_crash 0 = .ok (.iload_n 1, 1) := by decide +kernel
theorem dX0_crash_1 : decode cX0_crash 1 = .ok (.invokestatic 34, 3) := by decide +kernel
theorem dX0_crash_4 : decode cX0_crash 4 = .ok (.ifCond .ne 6, 3) := by decide +kernel
theorem dX0_crash_7 : decode cX0_crash 7 = .ok (.bipush (-2), 2) := by decide +kernel
theorem dX0_crash_9 : decode cX0_crash 9 = .ok (.ireturn, 1) := by decide +kernel
theorem dX0_crash_10 : decode cX0_crash 10 = .ok (.aload_n 0, 1) := by decide +kernel
theorem dX0_crash_11 : decode cX0_crash 11 = .ok (.getfield 11, 3) := by decide +kernel
theorem dX0_crash_14 : decode cX0_crash 14 = .ok (.iload_n 1, 1) := by decide +kernel
theorem dX0_crash_15 : decode cX0_crash 15 = .ok (.aaload, 1) := by decide +kernel
theorem dX0_crash_16 : decode cX0_crash 16 = .ok (.astore_n 2, 1) := by decide +kernel
theorem dX0_crash_17 : decode cX0_crash 17 = .ok (.aload_n 2, 1) := by decide +kernel
theorem dX0_crash_18 : decode cX0_crash 18 = .ok (.getfield 38, 3) := by decide +kernel
theorem dX0_crash_21 : decode cX0_crash 21 = .ok (.ifCond .ne 6, 3) := by decide +kernel
theorem dX0_crash_24 : decode cX0_crash 24 = .ok (.bipush (-3), 2) := by decide +kernel
theorem dX0_crash_26 : decode cX0_crash 26 = .ok (.ireturn, 1) := by decide +kernel
theorem dX0_crash_27 : decode cX0_crash 27 = .ok (.aload_n 2, 1) := by decide +kernel
theorem dX0_crash_28 : decode cX0_crash 28 = .ok (.iconst 0, 1) := by decide +kernel
theorem dX0_crash_29 : decode cX0_crash 29 = .ok (.putfield 38, 3) := by decide +kernel
theorem dX0_crash_32 : decode cX0_crash 32 = .ok (.iconst 0, 1) := by decide +kernel
theorem dX0_crash_33 : decode cX0_crash 33 = .ok (.istore_n 3, 1) := by decide +kernel
theorem dX0_crash_34 : decode cX0_crash 34 = .ok (.iload_n 3, 1) := by decide +kernel
theorem dX0_crash_35 : decode cX0_crash 35 = .ok (.aload_n 0, 1) := by decide +kernel
theorem dX0_crash_36 : decode cX0_crash 36 = .ok (.getfield 30, 3) := by decide +kernel
theorem dX0_crash_39 : decode cX0_crash 39 = .ok (.if_icmp .ge 36, 3) := by decide +kernel
theorem dX0_crash_42 : decode cX0_crash 42 = .ok (.aload_n 2, 1) := by decide +kernel
theorem dX0_crash_43 : decode cX0_crash 43 = .ok (.iload_n 3, 1) := by decide +kernel
theorem dX0_crash_44 : decode cX0_crash 44 = .ok (.invokevirtual 108, 3) := by decide +kernel
theorem dX0_crash_47 : decode cX0_crash 47 = .ok (.aload_n 0, 1) := by decide +kernel
theorem dX0_crash_48 : decode cX0_crash 48 = .ok (.getfield 18, 3) := by decide +kernel
theorem dX0_crash_51 : decode cX0_crash 51 = .ok (.iload_n 3, 1) := by decide +kernel
theorem dX0_crash_52 : decode cX0_crash 52 = .ok (.aaload, 1) := by decide +kernel
theorem dX0_crash_53 : decode cX0_crash 53 = .ok (.getfield 42, 3) := by decide +kernel
theorem dX0_crash_56 : decode cX0_crash 56 = .ok (.iload_n 1, 1) := by decide +kernel
theorem dX0_crash_57 : decode cX0_crash 57 = .ok (.if_icmp .ne 12, 3) := by decide +kernel
theorem dX0_crash_60 : decode cX0_crash 60 = .ok (.aload_n 0, 1) := by decide +kernel
theorem dX0_crash_61 : decode cX0_crash 61 = .ok (.getfield 18, 3) := by decide +kernel
theorem dX0_crash_64 : decode cX0_crash 64 = .ok (.iload_n 3, 1) := by decide +kernel
theorem dX0_crash_65 : decode cX0_crash 65 = .ok (.aaload, 1) := by decide +kernel
theorem dX0_crash_66 : decode cX0_crash 66 = .ok (.invokevirtual 72, 3) := by decide +kernel
theorem dX0_crash_69 : decode cX0_crash 69 = .ok (.iinc 3 1, 3) := by decide +kernel
theorem dX0_crash_72 : decode cX0_crash 72 = .ok (.goto (-38), 3) := by decide +kernel
theorem dX0_crash_75 : decode cX0_crash 75 = .ok (.aload_n 2, 1) := by decide +kernel
theorem dX0_crash_76 : decode cX0_crash 76 = .ok (.getfield 111, 3) := by decide +kernel
theorem dX0_crash_79 : decode cX0_crash 79 = .ok (.invokevirtual 115, 3) := by decide +kernel
theorem dX0_crash_82 : decode cX0_crash 82 = .ok (.ireturn, 1) := by decide +kernel
theorem dX1_dropUnsafe_0 : decode cX1_dropUnsafe 0 = .ok (.aload_n 0, 1) := by decide +kernel
theorem dX1_dropUnsafe_1 : decode cX1_dropUnsafe 1 = .ok (.getfield 18, 3) := by decide +kernel
theorem dX1_dropUnsafe_4 : decode cX1_dropUnsafe 4 = .ok (.aload_n 0, 1) := by decide +kernel
theorem dX1_dropUnsafe_5 : decode cX1_dropUnsafe 5 = .ok (.getfield 30, 3) := by decide +kernel
theorem dX1_dropUnsafe_8 : decode cX1_dropUnsafe 8 = .ok (.isub, 1) := by decide +kernel
theorem dX1_dropUnsafe_9 : decode cX1_dropUnsafe 9 = .ok (.istore_n 1, 1) := by decide +kernel
theorem dX1_dropUnsafe_10 : decode cX1_dropUnsafe 10 = .ok (.aload_n 0, 1) := by decide +kernel
theorem dX1_dropUnsafe_11 : decode cX1_dropUnsafe 11 = .ok (.aload_n 0, 1) := by decide +kernel
theorem dX1_dropUnsafe_12 : decode cX1_dropUnsafe 12 = .ok (.getfield 30, 3) := by decide +kernel
theorem dX1_dropUnsafe_15 : decode cX1_dropUnsafe 15 = .ok (.putfield 18, 3) := by decide +kernel
theorem dX1_dropUnsafe_18 : decode cX1_dropUnsafe 18 = .ok (.iload_n 1, 1) := by decide +kernel
theorem dX1_dropUnsafe_19 : decode cX1_dropUnsafe 19 = .ok (.ireturn, 1) := by decide +kernel
theorem dX0_recover_0 : decode cX0_recover 0 = .ok (.iload_n 1, 1) := by decide +kernel
theorem dX0_recover_1 : decode cX0_recover 1 = .ok (.invokestatic 34, 3) := by decide +kernel
theorem dX0_recover_4 : decode cX0_recover 4 = .ok (.ifCond .ne 6, 3) := by decide +kernel
theorem dX0_recover_7 : decode cX0_recover 7 = .ok (.bipush (-2), 2) := by decide +kernel
theorem dX0_recover_9 : decode cX0_recover 9 = .ok (.ireturn, 1) := by decide +kernel
theorem dX0_recover_10 : decode cX0_recover 10 = .ok (.aload_n 0, 1) := by decide +kernel
theorem dX0_recover_11 : decode cX0_recover 11 = .ok (.getfield 11, 3) := by decide +kernel
theorem dX0_recover_14 : decode cX0_recover 14 = .ok (.iload_n 1, 1) := by decide +kernel
theorem dX0_recover_15 : decode cX0_recover 15 = .ok (.aaload, 1) := by decide +kernel
theorem dX0_recover_16 : decode cX0_recover 16 = .ok (.astore_n 2, 1) := by decide +kernel
theorem dX0_recover_17 : decode cX0_recover 17 = .ok (.aload_n 2, 1) := by decide +kernel
theorem dX0_recover_18 : decode cX0_recover 18 = .ok (.getfield 38, 3) := by decide +kernel
theorem dX0_recover_21 : decode cX0_recover 21 = .ok (.ifCond .eq 6, 3) := by decide +kernel
theorem dX0_recover_24 : decode cX0_recover 24 = .ok (.bipush (-4), 2) := by decide +kernel
theorem dX0_recover_26 : decode cX0_recover 26 = .ok (.ireturn, 1) := by decide +kernel
theorem dX0_recover_27 : decode cX0_recover 27 = .ok (.aload_n 2, 1) := by decide +kernel
theorem dX0_recover_28 : decode cX0_recover 28 = .ok (.iconst 1, 1) := by decide +kernel
theorem dX0_recover_29 : decode cX0_recover 29 = .ok (.putfield 38, 3) := by decide +kernel
theorem dX0_recover_32 : decode cX0_recover 32 = .ok (.iconst 0, 1) := by decide +kernel
theorem dX0_recover_33 : decode cX0_recover 33 = .ok (.istore_n 3, 1) := by decide +kernel
theorem dX0_recover_34 : decode cX0_recover 34 = .ok (.iconst 0, 1) := by decide +kernel
theorem dX0_recover_35 : decode cX0_recover 35 = .ok (.istore 4, 2) := by decide +kernel
theorem dX0_recover_37 : decode cX0_recover 37 = .ok (.iload 4, 2) := by decide +kernel
theorem dX0_recover_39 : decode cX0_recover 39 = .ok (.aload_n 0, 1) := by decide +kernel
theorem dX0_recover_40 : decode cX0_recover 40 = .ok (.getfield 30, 3) := by decide +kernel
theorem dX0_recover_43 : decode cX0_recover 43 = .ok (.if_icmp .ge 34, 3) := by decide +kernel
theorem dX0_recover_46 : decode cX0_recover 46 = .ok (.aload_n 2, 1) := by decide +kernel
theorem dX0_recover_47 : decode cX0_recover 47 = .ok (.iload 4, 2) := by decide +kernel
theorem dX0_recover_49 : decode cX0_recover 49 = .ok (.invokevirtual 121, 3) := by decide +kernel
theorem dX0_recover_52 : decode cX0_recover 52 = .ok (.ifCond .eq 6, 3) := by decide +kernel
theorem dX0_recover_55 : decode cX0_recover 55 = .ok (.iinc 3 1, 3) := by decide +kernel
theorem dX0_recover_58 : decode cX0_recover 58 = .ok (.aload_n 0, 1) := by decide +kernel
theorem dX0_recover_59 : decode cX0_recover 59 = .ok (.iload_n 1, 1) := by decide +kernel
theorem dX0_recover_60 : decode cX0_recover 60 = .ok (.iload 4, 2) := by decide +kernel
theorem dX0_recover_62 : decode cX0_recover 62 = .ok (.invokevirtual 124, 3) := by decide +kernel
theorem dX0_recover_65 : decode cX0_recover 65 = .ok (.ifCond .eq 6, 3) := by decide +kernel
theorem dX0_recover_68 : decode cX0_recover 68 = .ok (.iinc 3 1, 3) := by decide +kernel
theorem dX0_recover_71 : decode cX0_recover 71 = .ok (.iinc 4 1, 3) := by decide +kernel
theorem dX0_recover_74 : decode cX0_recover 74 = .ok (.goto (-37), 3) := by decide +kernel
theorem dX0_recover_77 : decode cX0_recover 77 = .ok (.iload_n 3, 1) := by decide +kernel
theorem dX0_recover_78 : decode cX0_recover 78 = .ok (.ireturn, 1) := by decide +kernel
theorem dX3_restorePrepared_0 : decode cX3_restorePrepared 0 = .ok (.aload_n 0, 1) := by decide +kernel
theorem dX3_restorePrepared_1 : decode cX3_restorePrepared 1 = .ok (.getfield 25, 3) := by decide +kernel
theorem dX3_restorePrepared_4 : decode cX3_restorePrepared 4 = .ok (.iload_n 1, 1) := by decide +kernel
theorem dX3_restorePrepared_5 : decode cX3_restorePrepared 5 = .ok (.iconst 1, 1) := by decide +kernel
theorem dX3_restorePrepared_6 : decode cX3_restorePrepared 6 = .ok (.invokevirtual 57, 3) := by decide +kernel
theorem dX3_restorePrepared_9 : decode cX3_restorePrepared 9 = .ok (.istore_n 2, 1) := by decide +kernel
theorem dX3_restorePrepared_10 : decode cX3_restorePrepared 10 = .ok (.iload_n 2, 1) := by decide +kernel
theorem dX3_restorePrepared_11 : decode cX3_restorePrepared 11 = .ok (.iconst (-1), 1) := by decide +kernel
theorem dX3_restorePrepared_12 : decode cX3_restorePrepared 12 = .ok (.if_icmp .eq 29, 3) := by decide +kernel
theorem dX3_restorePrepared_15 : decode cX3_restorePrepared 15 = .ok (.aload_n 0, 1) := by decide +kernel
theorem dX3_restorePrepared_16 : decode cX3_restorePrepared 16 = .ok (.getfield 25, 3) := by decide +kernel
theorem dX3_restorePrepared_19 : decode cX3_restorePrepared 19 = .ok (.iload_n 1, 1) := by decide +kernel
theorem dX3_restorePrepared_20 : decode cX3_restorePrepared 20 = .ok (.iconst 2, 1) := by decide +kernel
theorem dX3_restorePrepared_21 : decode cX3_restorePrepared 21 = .ok (.invokevirtual 57, 3) := by decide +kernel
theorem dX3_restorePrepared_24 : decode cX3_restorePrepared 24 = .ok (.iconst (-1), 1) := by decide +kernel
theorem dX3_restorePrepared_25 : decode cX3_restorePrepared 25 = .ok (.if_icmp .ne 16, 3) := by decide +kernel
theorem dX3_restorePrepared_28 : decode cX3_restorePrepared 28 = .ok (.aload_n 0, 1) := by decide +kernel
theorem dX3_restorePrepared_29 : decode cX3_restorePrepared 29 = .ok (.getfield 25, 3) := by decide +kernel
theorem dX3_restorePrepared_32 : decode cX3_restorePrepared 32 = .ok (.iload_n 1, 1) := by decide +kernel
theorem dX3_restorePrepared_33 : decode cX3_restorePrepared 33 = .ok (.iconst 3, 1) := by decide +kernel
theorem dX3_restorePrepared_34 : decode cX3_restorePrepared 34 = .ok (.invokevirtual 57, 3) := by decide +kernel
theorem dX3_restorePrepared_37 : decode cX3_restorePrepared 37 = .ok (.iconst (-1), 1) := by decide +kernel
theorem dX3_restorePrepared_38 : decode cX3_restorePrepared 38 = .ok (.if_icmp .eq 5, 3) := by decide +kernel
theorem dX3_restorePrepared_41 : decode cX3_restorePrepared 41 = .ok (.iconst 0, 1) := by decide +kernel
theorem dX3_restorePrepared_42 : decode cX3_restorePrepared 42 = .ok (.ireturn, 1) := by decide +kernel
theorem dX3_restorePrepared_43 : decode cX3_restorePrepared 43 = .ok (.aload_n 0, 1) := by decide +kernel
theorem dX3_restorePrepared_44 : decode cX3_restorePrepared 44 = .ok (.getfield 15, 3) := by decide +kernel
theorem dX3_restorePrepared_47 : decode cX3_restorePrepared 47 = .ok (.iload_n 1, 1) := by decide +kernel
theorem dX3_restorePrepared_48 : decode cX3_restorePrepared 48 = .ok (.iconst 3, 1) := by decide +kernel
theorem dX3_restorePrepared_49 : decode cX3_restorePrepared 49 = .ok (.iastore, 1) := by decide +kernel
theorem dX3_restorePrepared_50 : decode cX3_restorePrepared 50 = .ok (.aload_n 0, 1) := by decide +kernel
theorem dX3_restorePrepared_51 : decode cX3_restorePrepared 51 = .ok (.getfield 19, 3) := by decide +kernel
theorem dX3_restorePrepared_54 : decode cX3_restorePrepared 54 = .ok (.iload_n 1, 1) := by decide +kernel
theorem dX3_restorePrepared_55 : decode cX3_restorePrepared 55 = .ok (.aload_n 0, 1) := by decide +kernel
theorem dX3_restorePrepared_56 : decode cX3_restorePrepared 56 = .ok (.getfield 25, 3) := by decide +kernel
theorem dX3_restorePrepared_59 : decode cX3_restorePrepared 59 = .ok (.getfield 61, 3) := by decide +kernel
theorem dX3_restorePrepared_62 : decode cX3_restorePrepared 62 = .ok (.iload_n 2, 1) := by decide +kernel
theorem dX3_restorePrepared_63 : decode cX3_restorePrepared 63 = .ok (.iaload, 1) := by decide +kernel
theorem dX3_restorePrepared_64 : decode cX3_restorePrepared 64 = .ok (.iastore, 1) := by decide +kernel
theorem dX3_restorePrepared_65 : decode cX3_restorePrepared 65 = .ok (.iconst 1, 1) := by decide +kernel
theorem dX3_restorePrepared_66 : decode cX3_restorePrepared 66 = .ok (.ireturn, 1) := by decide +kernel
theorem dX1_find_0 : decode cX1_find 0 = .ok (.iload_n 1, 1) := by decide +kernel
theorem dX1_find_1 : decode cX1_find 1 = .ok (.iload_n 2, 1) := by decide +kernel
theorem dX1_find_2 : decode cX1_find 2 = .ok (.invokestatic 22, 3) := by decide +kernel
theorem dX1_find_5 : decode cX1_find 5 = .ok (.istore_n 3, 1) := by decide +kernel
theorem dX1_find_6 : decode cX1_find 6 = .ok (.iconst 0, 1) := by decide +kernel
theorem dX1_find_7 : decode cX1_find 7 = .ok (.istore 4, 2) := by decide +kernel
theorem dX1_find_9 : decode cX1_find 9 = .ok (.iload 4, 2) := by decide +kernel
theorem dX1_find_11 : decode cX1_find 11 = .ok (.aload_n 0, 1) := by decide +kernel
theorem dX1_find_12 : decode cX1_find 12 = .ok (.getfield 18, 3) := by decide +kernel
theorem dX1_find_15 : decode cX1_find 15 = .ok (.if_icmp .ge 23, 3) := by decide +kernel
theorem dX1_find_18 : decode cX1_find 18 = .ok (.aload_n 0, 1) := by decide +kernel
theorem dX1_find_19 : decode cX1_find 19 = .ok (.getfield 9, 3) := by decide +kernel
theorem dX1_find_22 : decode cX1_find 22 = .ok (.iload 4, 2) := by decide +kernel
theorem dX1_find_24 : decode cX1_find 24 = .ok (.iaload, 1) := by decide +kernel
theorem dX1_find_25 : decode cX1_find 25 = .ok (.iload_n 3, 1) := by decide +kernel
theorem dX1_find_26 : decode cX1_find 26 = .ok (.if_icmp .ne 6, 3) := by decide +kernel
theorem dX1_find_29 : decode cX1_find 29 = .ok (.iload 4, 2) := by decide +kernel
theorem dX1_find_31 : decode cX1_find 31 = .ok (.ireturn, 1) := by decide +kernel
theorem dX1_find_32 : decode cX1_find 32 = .ok (.iinc 4 1, 3) := by decide +kernel
theorem dX1_find_35 : decode cX1_find 35 = .ok (.goto (-26), 3) := by decide +kernel
theorem dX1_find_38 : decode cX1_find 38 = .ok (.iconst (-1), 1) := by decide +kernel
theorem dX1_find_39 : decode cX1_find 39 = .ok (.ireturn, 1) := by decide +kernel
theorem dX0_restoreCommitting_0 : decode cX0_restoreCommitting 0 = .ok (.aload_n 0, 1) := by decide +kernel
theorem dX0_restoreCommitting_1 : decode cX0_restoreCommitting 1 = .ok (.getfield 11, 3) := by decide +kernel
theorem dX0_restoreCommitting_4 : decode cX0_restoreCommitting 4 = .ok (.iload_n 1, 1) := by decide +kernel
theorem dX0_restoreCommitting_5 : decode cX0_restoreCommitting 5 = .ok (.aaload, 1) := by decide +kernel
theorem dX0_restoreCommitting_6 : decode cX0_restoreCommitting 6 = .ok (.getfield 111, 3) := by decide +kernel
theorem dX0_restoreCommitting_9 : decode cX0_restoreCommitting 9 = .ok (.astore_n 3, 1) := by decide +kernel
theorem dX0_restoreCommitting_10 : decode cX0_restoreCommitting 10 = .ok (.aload_n 3, 1) := by decide +kernel
theorem dX0_restoreCommitting_11 : decode cX0_restoreCommitting 11 = .ok (.iload_n 2, 1) := by decide +kernel
theorem dX0_restoreCommitting_12 : decode cX0_restoreCommitting 12 = .ok (.iconst 4, 1) := by decide +kernel
theorem dX0_restoreCommitting_13 : decode cX0_restoreCommitting 13 = .ok (.invokevirtual 192, 3) := by decide +kernel
theorem dX0_restoreCommitting_16 : decode cX0_restoreCommitting 16 = .ok (.istore 4, 2) := by decide +kernel
theorem dX0_restoreCommitting_18 : decode cX0_restoreCommitting 18 = .ok (.iload 4, 2) := by decide +kernel
theorem dX0_restoreCommitting_20 : decode cX0_restoreCommitting 20 = .ok (.iconst (-1), 1) := by decide +kernel
theorem dX0_restoreCommitting_21 : decode cX0_restoreCommitting 21 = .ok (.if_icmp .eq 14, 3) := by decide +kernel
theorem dX0_restoreCommitting_24 : decode cX0_restoreCommitting 24 = .ok (.aload_n 3, 1) := by decide +kernel
theorem dX0_restoreCommitting_25 : decode cX0_restoreCommitting 25 = .ok (.iload_n 2, 1) := by decide +kernel
theorem dX0_restoreCommitting_26 : decode cX0_restoreCommitting 26 = .ok (.bipush 6, 2) := by decide +kernel
theorem dX0_restoreCommitting_28 : decode cX0_restoreCommitting 28 = .ok (.invokevirtual 192, 3) := by decide +kernel
theorem dX0_restoreCommitting_31 : decode cX0_restoreCommitting 31 = .ok (.iconst (-1), 1) := by decide +kernel
theorem dX0_restoreCommitting_32 : decode cX0_restoreCommitting 32 = .ok (.if_icmp .eq 5, 3) := by decide +kernel
theorem dX0_restoreCommitting_35 : decode cX0_restoreCommitting 35 = .ok (.iconst 0, 1) := by decide +kernel
theorem dX0_restoreCommitting_36 : decode cX0_restoreCommitting 36 = .ok (.ireturn, 1) := by decide +kernel
theorem dX0_restoreCommitting_37 : decode cX0_restoreCommitting 37 = .ok (.aload_n 3, 1) := by decide +kernel
theorem dX0_restoreCommitting_38 : decode cX0_restoreCommitting 38 = .ok (.getfield 149, 3) := by decide +kernel
theorem dX0_restoreCommitting_41 : decode cX0_restoreCommitting 41 = .ok (.iload 4, 2) := by decide +kernel
theorem dX0_restoreCommitting_43 : decode cX0_restoreCommitting 43 = .ok (.iaload, 1) := by decide +kernel
theorem dX0_restoreCommitting_44 : decode cX0_restoreCommitting 44 = .ok (.istore 5, 2) := by decide +kernel
theorem dX0_restoreCommitting_46 : decode cX0_restoreCommitting 46 = .ok (.aload_n 0, 1) := by decide +kernel
theorem dX0_restoreCommitting_47 : decode cX0_restoreCommitting 47 = .ok (.getfield 18, 3) := by decide +kernel
theorem dX0_restoreCommitting_50 : decode cX0_restoreCommitting 50 = .ok (.iload_n 2, 1) := by decide +kernel
theorem dX0_restoreCommitting_51 : decode cX0_restoreCommitting 51 = .ok (.aaload, 1) := by decide +kernel
theorem dX0_restoreCommitting_52 : decode cX0_restoreCommitting 52 = .ok (.astore 6, 2) := by decide +kernel
theorem dX0_restoreCommitting_54 : decode cX0_restoreCommitting 54 = .ok (.aload 6, 2) := by decide +kernel
theorem dX0_restoreCommitting_56 : decode cX0_restoreCommitting 56 = .ok (.iconst 3, 1) := by decide +kernel
theorem dX0_restoreCommitting_57 : decode cX0_restoreCommitting 57 = .ok (.putfield 45, 3) := by decide +kernel
theorem dX0_restoreCommitting_60 : decode cX0_restoreCommitting 60 = .ok (.aload 6, 2) := by decide +kernel
theorem dX0_restoreCommitting_62 : decode cX0_restoreCommitting 62 = .ok (.iload 5, 2) := by decide +kernel
theorem dX0_restoreCommitting_64 : decode cX0_restoreCommitting 64 = .ok (.putfield 54, 3) := by decide +kernel
theorem dX0_restoreCommitting_67 : decode cX0_restoreCommitting 67 = .ok (.aload 6, 2) := by decide +kernel
theorem dX0_restoreCommitting_69 : decode cX0_restoreCommitting 69 = .ok (.iload 5, 2) := by decide +kernel
theorem dX0_restoreCommitting_71 : decode cX0_restoreCommitting 71 = .ok (.putfield 127, 3) := by decide +kernel
theorem dX0_restoreCommitting_74 : decode cX0_restoreCommitting 74 = .ok (.aload 6, 2) := by decide +kernel
theorem dX0_restoreCommitting_76 : decode cX0_restoreCommitting 76 = .ok (.iload 5, 2) := by decide +kernel
theorem dX0_restoreCommitting_78 : decode cX0_restoreCommitting 78 = .ok (.putfield 133, 3) := by decide +kernel
theorem dX0_restoreCommitting_81 : decode cX0_restoreCommitting 81 = .ok (.aload_n 0, 1) := by decide +kernel
theorem dX0_restoreCommitting_82 : decode cX0_restoreCommitting 82 = .ok (.getfield 26, 3) := by decide +kernel
theorem dX0_restoreCommitting_85 : decode cX0_restoreCommitting 85 = .ok (.iconst 5, 1) := by decide +kernel
theorem dX0_restoreCommitting_86 : decode cX0_restoreCommitting 86 = .ok (.iload_n 1, 1) := by decide +kernel
theorem dX0_restoreCommitting_87 : decode cX0_restoreCommitting 87 = .ok (.iload 5, 2) := by decide +kernel
theorem dX0_restoreCommitting_89 : decode cX0_restoreCommitting 89 = .ok (.iload_n 2, 1) := by decide +kernel
theorem dX0_restoreCommitting_90 : decode cX0_restoreCommitting 90 = .ok (.invokevirtual 75, 3) := by decide +kernel
theorem dX0_restoreCommitting_93 : decode cX0_restoreCommitting 93 = .ok (.iconst 1, 1) := by decide +kernel
theorem dX0_restoreCommitting_94 : decode cX0_restoreCommitting 94 = .ok (.ireturn, 1) := by decide +kernel
theorem dX0_up_0 : decode cX0_up 0 = .ok (.iload_n 1, 1) := by decide +kernel
theorem dX0_up_1 : decode cX0_up 1 = .ok (.invokestatic 34, 3) := by decide +kernel
theorem dX0_up_4 : decode cX0_up 4 = .ok (.ifCond .eq 19, 3) := by decide +kernel
theorem dX0_up_7 : decode cX0_up 7 = .ok (.aload_n 0, 1) := by decide +kernel
theorem dX0_up_8 : decode cX0_up 8 = .ok (.getfield 11, 3) := by decide +kernel
theorem dX0_up_11 : decode cX0_up 11 = .ok (.iload_n 1, 1) := by decide +kernel
theorem dX0_up_12 : decode cX0_up 12 = .ok (.aaload, 1) := by decide +kernel
theorem dX0_up_13 : decode cX0_up 13 = .ok (.getfield 38, 3) := by decide +kernel
theorem dX0_up_16 : decode cX0_up 16 = .ok (.ifCond .eq 7, 3) := by decide +kernel
theorem dX0_up_19 : decode cX0_up 19 = .ok (.iconst 1, 1) := by decide +kernel
theorem dX0_up_20 : decode cX0_up 20 = .ok (.goto 4, 3) := by decide +kernel
theorem dX0_up_23 : decode cX0_up 23 = .ok (.iconst 0, 1) := by decide +kernel
theorem dX0_up_24 : decode cX0_up 24 = .ok (.ireturn, 1) := by decide +kernel
theorem dX0_stage_0 : decode cX0_stage 0 = .ok (.aload_n 0, 1) := by decide +kernel
theorem dX0_stage_1 : decode cX0_stage 1 = .ok (.iload_n 1, 1) := by decide +kernel
theorem dX0_stage_2 : decode cX0_stage 2 = .ok (.invokevirtual 48, 3) := by decide +kernel
theorem dX0_stage_5 : decode cX0_stage 5 = .ok (.ifCond .eq 15, 3) := by decide +kernel
theorem dX0_stage_8 : decode cX0_stage 8 = .ok (.aload_n 0, 1) := by decide +kernel
theorem dX0_stage_9 : decode cX0_stage 9 = .ok (.getfield 18, 3) := by decide +kernel
theorem dX0_stage_12 : decode cX0_stage 12 = .ok (.iload_n 1, 1) := by decide +kernel
theorem dX0_stage_13 : decode cX0_stage 13 = .ok (.aaload, 1) := by decide +kernel
theorem dX0_stage_14 : decode cX0_stage 14 = .ok (.getfield 45, 3) := by decide +kernel
theorem dX0_stage_17 : decode cX0_stage 17 = .ok (.goto 5, 3) := by decide +kernel
theorem dX0_stage_20 : decode cX0_stage 20 = .ok (.bipush (-2), 2) := by decide +kernel
theorem dX0_stage_22 : decode cX0_stage 22 = .ok (.ireturn, 1) := by decide +kernel
theorem dX0_nodes_0 : decode cX0_nodes 0 = .ok (.aload_n 0, 1) := by decide +kernel
theorem dX0_nodes_1 : decode cX0_nodes 1 = .ok (.iload_n 1, 1) := by decide +kernel
theorem dX0_nodes_2 : decode cX0_nodes 2 = .ok (.invokevirtual 48, 3) := by decide +kernel
theorem dX0_nodes_5 : decode cX0_nodes 5 = .ok (.ifCond .ne 6, 3) := by decide +kernel
theorem dX0_nodes_8 : decode cX0_nodes 8 = .ok (.bipush (-2), 2) := by decide +kernel
theorem dX0_nodes_10 : decode cX0_nodes 10 = .ok (.ireturn, 1) := by decide +kernel
theorem dX0_nodes_11 : decode cX0_nodes 11 = .ok (.iload_n 2, 1) := by decide +kernel
theorem dX0_nodes_12 : decode cX0_nodes 12 = .ok (.tableswitch 72 0 3 #[32, 42, 52, 62], 32) := by decide +kernel
theorem dX0_nodes_44 : decode cX0_nodes 44 = .ok (.aload_n 0, 1) := by decide +kernel
theorem dX0_nodes_45 : decode cX0_nodes 45 = .ok (.getfield 18, 3) := by decide +kernel
theorem dX0_nodes_48 : decode cX0_nodes 48 = .ok (.iload_n 1, 1) := by decide +kernel
theorem dX0_nodes_49 : decode cX0_nodes 49 = .ok (.aaload, 1) := by decide +kernel
theorem dX0_nodes_50 : decode cX0_nodes 50 = .ok (.getfield 54, 3) := by decide +kernel
theorem dX0_nodes_53 : decode cX0_nodes 53 = .ok (.ireturn, 1) := by decide +kernel
theorem dX0_nodes_54 : decode cX0_nodes 54 = .ok (.aload_n 0, 1) := by decide +kernel
theorem dX0_nodes_55 : decode cX0_nodes 55 = .ok (.getfield 18, 3) := by decide +kernel
theorem dX0_nodes_58 : decode cX0_nodes 58 = .ok (.iload_n 1, 1) := by decide +kernel
theorem dX0_nodes_59 : decode cX0_nodes 59 = .ok (.aaload, 1) := by decide +kernel
theorem dX0_nodes_60 : decode cX0_nodes 60 = .ok (.getfield 127, 3) := by decide +kernel
theorem dX0_nodes_63 : decode cX0_nodes 63 = .ok (.ireturn, 1) := by decide +kernel
theorem dX0_nodes_64 : decode cX0_nodes 64 = .ok (.aload_n 0, 1) := by decide +kernel
theorem dX0_nodes_65 : decode cX0_nodes 65 = .ok (.getfield 18, 3) := by decide +kernel
theorem dX0_nodes_68 : decode cX0_nodes 68 = .ok (.iload_n 1, 1) := by decide +kernel
theorem dX0_nodes_69 : decode cX0_nodes 69 = .ok (.aaload, 1) := by decide +kernel
theorem dX0_nodes_70 : decode cX0_nodes 70 = .ok (.getfield 130, 3) := by decide +kernel
theorem dX0_nodes_73 : decode cX0_nodes 73 = .ok (.ireturn, 1) := by decide +kernel
theorem dX0_nodes_74 : decode cX0_nodes 74 = .ok (.aload_n 0, 1) := by decide +kernel
theorem dX0_nodes_75 : decode cX0_nodes 75 = .ok (.getfield 18, 3) := by decide +kernel
theorem dX0_nodes_78 : decode cX0_nodes 78 = .ok (.iload_n 1, 1) := by decide +kernel
theorem dX0_nodes_79 : decode cX0_nodes 79 = .ok (.aaload, 1) := by decide +kernel
theorem dX0_nodes_80 : decode cX0_nodes 80 = .ok (.getfield 133, 3) := by decide +kernel
theorem dX0_nodes_83 : decode cX0_nodes 83 = .ok (.ireturn, 1) := by decide +kernel
theorem dX0_nodes_84 : decode cX0_nodes 84 = .ok (.bipush (-2), 2) := by decide +kernel
theorem dX0_nodes_86 : decode cX0_nodes 86 = .ok (.ireturn, 1) := by decide +kernel
theorem dX0_state_0 : decode cX0_state 0 = .ok (.iload_n 1, 1) := by decide +kernel
theorem dX0_state_1 : decode cX0_state 1 = .ok (.invokestatic 34, 3) := by decide +kernel
theorem dX0_state_4 : decode cX0_state 4 = .ok (.ifCond .eq 11, 3) := by decide +kernel
theorem dX0_state_7 : decode cX0_state 7 = .ok (.aload_n 0, 1) := by decide +kernel
theorem dX0_state_8 : decode cX0_state 8 = .ok (.iload_n 2, 1) := by decide +kernel
theorem dX0_state_9 : decode cX0_state 9 = .ok (.invokevirtual 48, 3) := by decide +kernel
theorem dX0_state_12 : decode cX0_state 12 = .ok (.ifCond .ne 6, 3) := by decide +kernel
theorem dX0_state_15 : decode cX0_state 15 = .ok (.bipush (-2), 2) := by decide +kernel
theorem dX0_state_17 : decode cX0_state 17 = .ok (.ireturn, 1) := by decide +kernel
theorem dX0_state_18 : decode cX0_state 18 = .ok (.aload_n 0, 1) := by decide +kernel
theorem dX0_state_19 : decode cX0_state 19 = .ok (.getfield 11, 3) := by decide +kernel
theorem dX0_state_22 : decode cX0_state 22 = .ok (.iload_n 1, 1) := by decide +kernel
theorem dX0_state_23 : decode cX0_state 23 = .ok (.aaload, 1) := by decide +kernel
theorem dX0_state_24 : decode cX0_state 24 = .ok (.getfield 61, 3) := by decide +kernel
theorem dX0_state_27 : decode cX0_state 27 = .ok (.iload_n 2, 1) := by decide +kernel
theorem dX0_state_28 : decode cX0_state 28 = .ok (.iaload, 1) := by decide +kernel
theorem dX0_state_29 : decode cX0_state 29 = .ok (.ireturn, 1) := by decide +kernel
theorem dX0_holder_0 : decode cX0_holder 0 = .ok (.iload_n 1, 1) := by decide +kernel
theorem dX0_holder_1 : decode cX0_holder 1 = .ok (.invokestatic 34, 3) := by decide +kernel
theorem dX0_holder_4 : decode cX0_holder 4 = .ok (.ifCond .eq 10, 3) := by decide +kernel
theorem dX0_holder_7 : decode cX0_holder 7 = .ok (.iload_n 2, 1) := by decide +kernel
theorem dX0_holder_8 : decode cX0_holder 8 = .ok (.invokestatic 51, 3) := by decide +kernel
theorem dX0_holder_11 : decode cX0_holder 11 = .ok (.ifCond .ne 6, 3) := by decide +kernel
theorem dX0_holder_14 : decode cX0_holder 14 = .ok (.bipush (-2), 2) := by decide +kernel
theorem dX0_holder_16 : decode cX0_holder 16 = .ok (.ireturn, 1) := by decide +kernel
theorem dX0_holder_17 : decode cX0_holder 17 = .ok (.aload_n 0, 1) := by decide +kernel
theorem dX0_holder_18 : decode cX0_holder 18 = .ok (.getfield 11, 3) := by decide +kernel
theorem dX0_holder_21 : decode cX0_holder 21 = .ok (.iload_n 1, 1) := by decide +kernel
theorem dX0_holder_22 : decode cX0_holder 22 = .ok (.aaload, 1) := by decide +kernel
theorem dX0_holder_23 : decode cX0_holder 23 = .ok (.iload_n 2, 1) := by decide +kernel
theorem dX0_holder_24 : decode cX0_holder 24 = .ok (.invokevirtual 136, 3) := by decide +kernel
theorem dX0_holder_27 : decode cX0_holder 27 = .ok (.ireturn, 1) := by decide +kernel
theorem dX0_records_0 : decode cX0_records 0 = .ok (.iload_n 1, 1) := by decide +kernel
theorem dX0_records_1 : decode cX0_records 1 = .ok (.invokestatic 34, 3) := by decide +kernel
theorem dX0_records_4 : decode cX0_records 4 = .ok (.ifCond .ne 6, 3) := by decide +kernel
theorem dX0_records_7 : decode cX0_records 7 = .ok (.bipush (-2), 2) := by decide +kernel
theorem dX0_records_9 : decode cX0_records 9 = .ok (.ireturn, 1) := by decide +kernel
theorem dX0_records_10 : decode cX0_records 10 = .ok (.aload_n 0, 1) := by decide +kernel
theorem dX0_records_11 : decode cX0_records 11 = .ok (.getfield 11, 3) := by decide +kernel
theorem dX0_records_14 : decode cX0_records 14 = .ok (.iload_n 1, 1) := by decide +kernel
theorem dX0_records_15 : decode cX0_records 15 = .ok (.aaload, 1) := by decide +kernel
theorem dX0_records_16 : decode cX0_records 16 = .ok (.getfield 111, 3) := by decide +kernel
theorem dX0_records_19 : decode cX0_records 19 = .ok (.astore_n 3, 1) := by decide +kernel
theorem dX0_records_20 : decode cX0_records 20 = .ok (.iload_n 2, 1) := by decide +kernel
theorem dX0_records_21 : decode cX0_records 21 = .ok (.ifCond .eq 10, 3) := by decide +kernel
theorem dX0_records_24 : decode cX0_records 24 = .ok (.aload_n 3, 1) := by decide +kernel
theorem dX0_records_25 : decode cX0_records 25 = .ok (.getfield 139, 3) := by decide +kernel
theorem dX0_records_28 : decode cX0_records 28 = .ok (.goto 7, 3) := by decide +kernel
theorem dX0_records_31 : decode cX0_records 31 = .ok (.aload_n 3, 1) := by decide +kernel
theorem dX0_records_32 : decode cX0_records 32 = .ok (.getfield 142, 3) := by decide +kernel
theorem dX0_records_35 : decode cX0_records 35 = .ok (.ireturn, 1) := by decide +kernel
theorem dX0_entry_0 : decode cX0_entry 0 = .ok (.iload_n 1, 1) := by decide +kernel
theorem dX0_entry_1 : decode cX0_entry 1 = .ok (.invokestatic 34, 3) := by decide +kernel
theorem dX0_entry_4 : decode cX0_entry 4 = .ok (.ifCond .ne 6, 3) := by decide +kernel
theorem dX0_entry_7 : decode cX0_entry 7 = .ok (.bipush (-2), 2) := by decide +kernel
theorem dX0_entry_9 : decode cX0_entry 9 = .ok (.ireturn, 1) := by decide +kernel
theorem dX0_entry_10 : decode cX0_entry 10 = .ok (.aload_n 0, 1) := by decide +kernel
theorem dX0_entry_11 : decode cX0_entry 11 = .ok (.getfield 11, 3) := by decide +kernel
theorem dX0_entry_14 : decode cX0_entry 14 = .ok (.iload_n 1, 1) := by decide +kernel
theorem dX0_entry_15 : decode cX0_entry 15 = .ok (.aaload, 1) := by decide +kernel
theorem dX0_entry_16 : decode cX0_entry 16 = .ok (.getfield 111, 3) := by decide +kernel
theorem dX0_entry_19 : decode cX0_entry 19 = .ok (.astore_n 3, 1) := by decide +kernel
theorem dX0_entry_20 : decode cX0_entry 20 = .ok (.aload_n 3, 1) := by decide +kernel
theorem dX0_entry_21 : decode cX0_entry 21 = .ok (.iload_n 2, 1) := by decide +kernel
theorem dX0_entry_22 : decode cX0_entry 22 = .ok (.invokevirtual 145, 3) := by decide +kernel
theorem dX0_entry_25 : decode cX0_entry 25 = .ok (.ifCond .eq 12, 3) := by decide +kernel
theorem dX0_entry_28 : decode cX0_entry 28 = .ok (.aload_n 3, 1) := by decide +kernel
theorem dX0_entry_29 : decode cX0_entry 29 = .ok (.getfield 146, 3) := by decide +kernel
theorem dX0_entry_32 : decode cX0_entry 32 = .ok (.iload_n 2, 1) := by decide +kernel
theorem dX0_entry_33 : decode cX0_entry 33 = .ok (.iaload, 1) := by decide +kernel
theorem dX0_entry_34 : decode cX0_entry 34 = .ok (.goto 4, 3) := by decide +kernel
theorem dX0_entry_37 : decode cX0_entry 37 = .ok (.iconst (-1), 1) := by decide +kernel
theorem dX0_entry_38 : decode cX0_entry 38 = .ok (.ireturn, 1) := by decide +kernel
theorem dX1_has_0 : decode cX1_has 0 = .ok (.iload_n 1, 1) := by decide +kernel
theorem dX1_has_1 : decode cX1_has 1 = .ok (.ifCond .lt 15, 3) := by decide +kernel
theorem dX1_has_4 : decode cX1_has 4 = .ok (.iload_n 1, 1) := by decide +kernel
theorem dX1_has_5 : decode cX1_has 5 = .ok (.aload_n 0, 1) := by decide +kernel
theorem dX1_has_6 : decode cX1_has 6 = .ok (.getfield 18, 3) := by decide +kernel
theorem dX1_has_9 : decode cX1_has 9 = .ok (.if_icmp .ge 7, 3) := by decide +kernel
theorem dX1_has_12 : decode cX1_has 12 = .ok (.iconst 1, 1) := by decide +kernel
theorem dX1_has_13 : decode cX1_has 13 = .ok (.goto 4, 3) := by decide +kernel
theorem dX1_has_16 : decode cX1_has 16 = .ok (.iconst 0, 1) := by decide +kernel
theorem dX1_has_17 : decode cX1_has 17 = .ok (.ireturn, 1) := by decide +kernel
theorem dX0_content_0 : decode cX0_content 0 = .ok (.iload_n 1, 1) := by decide +kernel
theorem dX0_content_1 : decode cX0_content 1 = .ok (.invokestatic 34, 3) := by decide +kernel
theorem dX0_content_4 : decode cX0_content 4 = .ok (.ifCond .ne 6, 3) := by decide +kernel
theorem dX0_content_7 : decode cX0_content 7 = .ok (.bipush (-2), 2) := by decide +kernel
theorem dX0_content_9 : decode cX0_content 9 = .ok (.ireturn, 1) := by decide +kernel
theorem dX0_content_10 : decode cX0_content 10 = .ok (.aload_n 0, 1) := by decide +kernel
theorem dX0_content_11 : decode cX0_content 11 = .ok (.getfield 11, 3) := by decide +kernel
theorem dX0_content_14 : decode cX0_content 14 = .ok (.iload_n 1, 1) := by decide +kernel
theorem dX0_content_15 : decode cX0_content 15 = .ok (.aaload, 1) := by decide +kernel
theorem dX0_content_16 : decode cX0_content 16 = .ok (.getfield 111, 3) := by decide +kernel
theorem dX0_content_19 : decode cX0_content 19 = .ok (.astore_n 3, 1) := by decide +kernel
theorem dX0_content_20 : decode cX0_content 20 = .ok (.aload_n 3, 1) := by decide +kernel
theorem dX0_content_21 : decode cX0_content 21 = .ok (.iload_n 2, 1) := by decide +kernel
theorem dX0_content_22 : decode cX0_content 22 = .ok (.invokevirtual 145, 3) := by decide +kernel
theorem dX0_content_25 : decode cX0_content 25 = .ok (.ifCond .eq 12, 3) := by decide +kernel
theorem dX0_content_28 : decode cX0_content 28 = .ok (.aload_n 3, 1) := by decide +kernel
theorem dX0_content_29 : decode cX0_content 29 = .ok (.getfield 149, 3) := by decide +kernel
theorem dX0_content_32 : decode cX0_content 32 = .ok (.iload_n 2, 1) := by decide +kernel
theorem dX0_content_33 : decode cX0_content 33 = .ok (.iaload, 1) := by decide +kernel
theorem dX0_content_34 : decode cX0_content 34 = .ok (.goto 4, 3) := by decide +kernel
theorem dX0_content_37 : decode cX0_content 37 = .ok (.iconst (-1), 1) := by decide +kernel
theorem dX0_content_38 : decode cX0_content 38 = .ok (.ireturn, 1) := by decide +kernel
theorem dX0_messages_0 : decode cX0_messages 0 = .ok (.aload_n 0, 1) := by decide +kernel
theorem dX0_messages_1 : decode cX0_messages 1 = .ok (.getfield 26, 3) := by decide +kernel
theorem dX0_messages_4 : decode cX0_messages 4 = .ok (.getfield 152, 3) := by decide +kernel
theorem dX0_messages_7 : decode cX0_messages 7 = .ok (.ireturn, 1) := by decide +kernel
theorem dX0_message_0 : decode cX0_message 0 = .ok (.aload_n 0, 1) := by decide +kernel
theorem dX0_message_1 : decode cX0_message 1 = .ok (.getfield 26, 3) := by decide +kernel
theorem dX0_message_4 : decode cX0_message 4 = .ok (.iload_n 1, 1) := by decide +kernel
theorem dX0_message_5 : decode cX0_message 5 = .ok (.invokevirtual 88, 3) := by decide +kernel
theorem dX0_message_8 : decode cX0_message 8 = .ok (.ifCond .eq 12, 3) := by decide +kernel
theorem dX0_message_11 : decode cX0_message 11 = .ok (.iload_n 2, 1) := by decide +kernel
theorem dX0_message_12 : decode cX0_message 12 = .ok (.ifCond .lt 8, 3) := by decide +kernel
theorem dX0_message_15 : decode cX0_message 15 = .ok (.iload_n 2, 1) := by decide +kernel
theorem dX0_message_16 : decode cX0_message 16 = .ok (.iconst 4, 1) := by decide +kernel
theorem dX0_message_17 : decode cX0_message 17 = .ok (.if_icmp .lt 6, 3) := by decide +kernel
theorem dX0_message_20 : decode cX0_message 20 = .ok (.bipush (-2), 2) := by decide +kernel
theorem dX0_message_22 : decode cX0_message 22 = .ok (.ireturn, 1) := by decide +kernel
theorem dX0_message_23 : decode cX0_message 23 = .ok (.aload_n 0, 1) := by decide +kernel
theorem dX0_message_24 : decode cX0_message 24 = .ok (.getfield 26, 3) := by decide +kernel
theorem dX0_message_27 : decode cX0_message 27 = .ok (.getfield 91, 3) := by decide +kernel
theorem dX0_message_30 : decode cX0_message 30 = .ok (.iload_n 2, 1) := by decide +kernel
theorem dX0_message_31 : decode cX0_message 31 = .ok (.aaload, 1) := by decide +kernel
theorem dX0_message_32 : decode cX0_message 32 = .ok (.iload_n 1, 1) := by decide +kernel
theorem dX0_message_33 : decode cX0_message 33 = .ok (.iaload, 1) := by decide +kernel
theorem dX0_message_34 : decode cX0_message 34 = .ok (.ireturn, 1) := by decide +kernel
theorem dX0_forced_0 : decode cX0_forced 0 = .ok (.iload_n 1, 1) := by decide +kernel
theorem dX0_forced_1 : decode cX0_forced 1 = .ok (.invokestatic 34, 3) := by decide +kernel
theorem dX0_forced_4 : decode cX0_forced 4 = .ok (.ifCond .eq 18, 3) := by decide +kernel
theorem dX0_forced_7 : decode cX0_forced 7 = .ok (.aload_n 0, 1) := by decide +kernel
theorem dX0_forced_8 : decode cX0_forced 8 = .ok (.getfield 11, 3) := by decide +kernel
theorem dX0_forced_11 : decode cX0_forced 11 = .ok (.iload_n 1, 1) := by decide +kernel
theorem dX0_forced_12 : decode cX0_forced 12 = .ok (.aaload, 1) := by decide +kernel
theorem dX0_forced_13 : decode cX0_forced 13 = .ok (.getfield 111, 3) := by decide +kernel
theorem dX0_forced_16 : decode cX0_forced 16 = .ok (.getfield 153, 3) := by decide +kernel
theorem dX0_forced_19 : decode cX0_forced 19 = .ok (.goto 5, 3) := by decide +kernel
theorem dX0_forced_22 : decode cX0_forced 22 = .ok (.bipush (-2), 2) := by decide +kernel
theorem dX0_forced_24 : decode cX0_forced 24 = .ok (.ireturn, 1) := by decide +kernel
theorem dX5_init_0 : decode cX5_init 0 = .ok (.aload_n 0, 1) := by decide +kernel
theorem dX5_init_1 : decode cX5_init 1 = .ok (.invokespecial 1, 3) := by decide +kernel
theorem dX5_init_4 : decode cX5_init 4 = .ok (.aload_n 0, 1) := by decide +kernel
theorem dX5_init_5 : decode cX5_init 5 = .ok (.iconst 4, 1) := by decide +kernel
theorem dX5_init_6 : decode cX5_init 6 = .ok (.newarray .boolean, 2) := by decide +kernel
theorem dX5_init_8 : decode cX5_init 8 = .ok (.putfield 7, 3) := by decide +kernel
theorem dX5_init_11 : decode cX5_init 11 = .ok (.aload_n 0, 1) := by decide +kernel
theorem dX5_init_12 : decode cX5_init 12 = .ok (.iconst 4, 1) := by decide +kernel
theorem dX5_init_13 : decode cX5_init 13 = .ok (.newarray .int, 2) := by decide +kernel
theorem dX5_init_15 : decode cX5_init 15 = .ok (.putfield 13, 3) := by decide +kernel
theorem dX5_init_18 : decode cX5_init 18 = .ok (.aload_n 0, 1) := by decide +kernel
theorem dX5_init_19 : decode cX5_init 19 = .ok (.bipush 10, 2) := by decide +kernel
theorem dX5_init_21 : decode cX5_init 21 = .ok (.newarray .int, 2) := by decide +kernel
theorem dX5_init_23 : decode cX5_init 23 = .ok (.putfield 17, 3) := by decide +kernel
theorem dX5_init_26 : decode cX5_init 26 = .ok (.aload_n 0, 1) := by decide +kernel
theorem dX5_init_27 : decode cX5_init 27 = .ok (.bipush 10, 2) := by decide +kernel
theorem dX5_init_29 : decode cX5_init 29 = .ok (.newarray .int, 2) := by decide +kernel
theorem dX5_init_31 : decode cX5_init 31 = .ok (.putfield 20, 3) := by decide +kernel
theorem dX5_init_34 : decode cX5_init 34 = .ok (.aload_n 0, 1) := by decide +kernel
theorem dX5_init_35 : decode cX5_init 35 = .ok (.bipush 40, 2) := by decide +kernel
theorem dX5_init_37 : decode cX5_init 37 = .ok (.newarray .boolean, 2) := by decide +kernel
theorem dX5_init_39 : decode cX5_init 39 = .ok (.putfield 23, 3) := by decide +kernel
theorem dX5_init_42 : decode cX5_init 42 = .ok (.aload_n 0, 1) := by decide +kernel
theorem dX5_init_43 : decode cX5_init 43 = .ok (.bipush 40, 2) := by decide +kernel
theorem dX5_init_45 : decode cX5_init 45 = .ok (.newarray .boolean, 2) := by decide +kernel
theorem dX5_init_47 : decode cX5_init 47 = .ok (.putfield 26, 3) := by decide +kernel
theorem dX5_init_50 : decode cX5_init 50 = .ok (.aload_n 0, 1) := by decide +kernel
theorem dX5_init_51 : decode cX5_init 51 = .ok (.bipush 40, 2) := by decide +kernel
theorem dX5_init_53 : decode cX5_init 53 = .ok (.newarray .boolean, 2) := by decide +kernel
theorem dX5_init_55 : decode cX5_init 55 = .ok (.putfield 29, 3) := by decide +kernel
theorem dX5_init_58 : decode cX5_init 58 = .ok (.aload_n 0, 1) := by decide +kernel
theorem dX5_init_59 : decode cX5_init 59 = .ok (.bipush 40, 2) := by decide +kernel
theorem dX5_init_61 : decode cX5_init 61 = .ok (.newarray .boolean, 2) := by decide +kernel
theorem dX5_init_63 : decode cX5_init 63 = .ok (.putfield 32, 3) := by decide +kernel
theorem dX5_init_66 : decode cX5_init 66 = .ok (.aload_n 0, 1) := by decide +kernel
theorem dX5_init_67 : decode cX5_init 67 = .ok (.bipush 40, 2) := by decide +kernel
theorem dX5_init_69 : decode cX5_init 69 = .ok (.newarray .int, 2) := by decide +kernel
theorem dX5_init_71 : decode cX5_init 71 = .ok (.putfield 35, 3) := by decide +kernel
theorem dX5_init_74 : decode cX5_init 74 = .ok (.aload_n 0, 1) := by decide +kernel
theorem dX5_init_75 : decode cX5_init 75 = .ok (.bipush 32, 2) := by decide +kernel
theorem dX5_init_77 : decode cX5_init 77 = .ok (.newarray .int, 2) := by decide +kernel
theorem dX5_init_79 : decode cX5_init 79 = .ok (.putfield 38, 3) := by decide +kernel
theorem dX5_init_82 : decode cX5_init 82 = .ok (.aload_n 0, 1) := by decide +kernel
theorem dX5_init_83 : decode cX5_init 83 = .ok (.iconst 4, 1) := by decide +kernel
theorem dX5_init_84 : decode cX5_init 84 = .ok (.newarray .int, 2) := by decide +kernel
theorem dX5_init_86 : decode cX5_init 86 = .ok (.putfield 41, 3) := by decide +kernel
theorem dX5_init_89 : decode cX5_init 89 = .ok (.aload_n 0, 1) := by decide +kernel
theorem dX5_init_90 : decode cX5_init 90 = .ok (.sipush 256, 3) := by decide +kernel
theorem dX5_init_93 : decode cX5_init 93 = .ok (.newarray .int, 2) := by decide +kernel
theorem dX5_init_95 : decode cX5_init 95 = .ok (.putfield 44, 3) := by decide +kernel
theorem dX5_init_98 : decode cX5_init 98 = .ok (.aload_n 0, 1) := by decide +kernel
theorem dX5_init_99 : decode cX5_init 99 = .ok (.sipush 256, 3) := by decide +kernel
theorem dX5_init_102 : decode cX5_init 102 = .ok (.newarray .int, 2) := by decide +kernel
theorem dX5_init_104 : decode cX5_init 104 = .ok (.putfield 47, 3) := by decide +kernel
theorem dX5_init_107 : decode cX5_init 107 = .ok (.aload_n 0, 1) := by decide +kernel
theorem dX5_init_108 : decode cX5_init 108 = .ok (.sipush 256, 3) := by decide +kernel
theorem dX5_init_111 : decode cX5_init 111 = .ok (.newarray .int, 2) := by decide +kernel
theorem dX5_init_113 : decode cX5_init 113 = .ok (.putfield 50, 3) := by decide +kernel
theorem dX5_init_116 : decode cX5_init 116 = .ok (.aload_n 0, 1) := by decide +kernel
theorem dX5_init_117 : decode cX5_init 117 = .ok (.sipush 256, 3) := by decide +kernel
theorem dX5_init_120 : decode cX5_init 120 = .ok (.newarray .boolean, 2) := by decide +kernel
theorem dX5_init_122 : decode cX5_init 122 = .ok (.putfield 53, 3) := by decide +kernel
theorem dX5_init_125 : decode cX5_init 125 = .ok (.aload_n 0, 1) := by decide +kernel
theorem dX5_init_126 : decode cX5_init 126 = .ok (.bipush 40, 2) := by decide +kernel
theorem dX5_init_128 : decode cX5_init 128 = .ok (.newarray .int, 2) := by decide +kernel
theorem dX5_init_130 : decode cX5_init 130 = .ok (.putfield 56, 3) := by decide +kernel
theorem dX5_init_133 : decode cX5_init 133 = .ok (.aload_n 0, 1) := by decide +kernel
theorem dX5_init_134 : decode cX5_init 134 = .ok (.bipush 40, 2) := by decide +kernel
theorem dX5_init_136 : decode cX5_init 136 = .ok (.newarray .int, 2) := by decide +kernel
theorem dX5_init_138 : decode cX5_init 138 = .ok (.putfield 59, 3) := by decide +kernel
theorem dX5_init_141 : decode cX5_init 141 = .ok (.aload_n 0, 1) := by decide +kernel
theorem dX5_init_142 : decode cX5_init 142 = .ok (.bipush 40, 2) := by decide +kernel
theorem dX5_init_144 : decode cX5_init 144 = .ok (.newarray .int, 2) := by decide +kernel
theorem dX5_init_146 : decode cX5_init 146 = .ok (.putfield 62, 3) := by decide +kernel
theorem dX5_init_149 : decode cX5_init 149 = .ok (.aload_n 0, 1) := by decide +kernel
theorem dX5_init_150 : decode cX5_init 150 = .ok (.bipush 40, 2) := by decide +kernel
theorem dX5_init_152 : decode cX5_init 152 = .ok (.newarray .int, 2) := by decide +kernel
theorem dX5_init_154 : decode cX5_init 154 = .ok (.putfield 65, 3) := by decide +kernel
theorem dX5_init_157 : decode cX5_init 157 = .ok (.return_, 1) := by decide +kernel
theorem dX5_begin_0 : decode cX5_begin 0 = .ok (.iload_n 1, 1) := by decide +kernel
theorem dX5_begin_1 : decode cX5_begin 1 = .ok (.invokestatic 122, 3) := by decide +kernel
theorem dX5_begin_4 : decode cX5_begin 4 = .ok (.ifCond .eq 6, 3) := by decide +kernel
theorem dX5_begin_7 : decode cX5_begin 7 = .ok (.bipush (-2), 2) := by decide +kernel
theorem dX5_begin_9 : decode cX5_begin 9 = .ok (.ireturn, 1) := by decide +kernel
theorem dX5_begin_10 : decode cX5_begin 10 = .ok (.aload_n 0, 1) := by decide +kernel
theorem dX5_begin_11 : decode cX5_begin 11 = .ok (.getfield 7, 3) := by decide +kernel
theorem dX5_begin_14 : decode cX5_begin 14 = .ok (.iload_n 1, 1) := by decide +kernel
theorem dX5_begin_15 : decode cX5_begin 15 = .ok (.baload, 1) := by decide +kernel
theorem dX5_begin_16 : decode cX5_begin 16 = .ok (.ifCond .eq 6, 3) := by decide +kernel
theorem dX5_begin_19 : decode cX5_begin 19 = .ok (.bipush (-3), 2) := by decide +kernel
theorem dX5_begin_21 : decode cX5_begin 21 = .ok (.ireturn, 1) := by decide +kernel
theorem dX5_begin_22 : decode cX5_begin 22 = .ok (.aload_n 0, 1) := by decide +kernel
theorem dX5_begin_23 : decode cX5_begin 23 = .ok (.getfield 68, 3) := by decide +kernel
theorem dX5_begin_26 : decode cX5_begin 26 = .ok (.bipush 10, 2) := by decide +kernel
theorem dX5_begin_28 : decode cX5_begin 28 = .ok (.if_icmp .ne 6, 3) := by decide +kernel
theorem dX5_begin_31 : decode cX5_begin 31 = .ok (.bipush (-5), 2) := by decide +kernel
theorem dX5_begin_33 : decode cX5_begin 33 = .ok (.ireturn, 1) := by decide +kernel
theorem dX5_begin_34 : decode cX5_begin 34 = .ok (.aload_n 0, 1) := by decide +kernel
theorem dX5_begin_35 : decode cX5_begin 35 = .ok (.getfield 17, 3) := by decide +kernel
theorem dX5_begin_38 : decode cX5_begin 38 = .ok (.aload_n 0, 1) := by decide +kernel
theorem dX5_begin_39 : decode cX5_begin 39 = .ok (.getfield 68, 3) := by decide +kernel
theorem dX5_begin_42 : decode cX5_begin 42 = .ok (.iload_n 1, 1) := by decide +kernel
theorem dX5_begin_43 : decode cX5_begin 43 = .ok (.iastore, 1) := by decide +kernel
theorem dX5_begin_44 : decode cX5_begin 44 = .ok (.aload_n 0, 1) := by decide +kernel
theorem dX5_begin_45 : decode cX5_begin 45 = .ok (.getfield 20, 3) := by decide +kernel
theorem dX5_begin_48 : decode cX5_begin 48 = .ok (.aload_n 0, 1) := by decide +kernel
theorem dX5_begin_49 : decode cX5_begin 49 = .ok (.getfield 68, 3) := by decide +kernel
theorem dX5_begin_52 : decode cX5_begin 52 = .ok (.iconst 1, 1) := by decide +kernel
theorem dX5_begin_53 : decode cX5_begin 53 = .ok (.iastore, 1) := by decide +kernel
theorem dX5_begin_54 : decode cX5_begin 54 = .ok (.aload_n 0, 1) := by decide +kernel
theorem dX5_begin_55 : decode cX5_begin 55 = .ok (.dup, 1) := by decide +kernel
theorem dX5_begin_56 : decode cX5_begin 56 = .ok (.getfield 68, 3) := by decide +kernel
theorem dX5_begin_59 : decode cX5_begin 59 = .ok (.iconst 1, 1) := by decide +kernel
theorem dX5_begin_60 : decode cX5_begin 60 = .ok (.iadd, 1) := by decide +kernel
theorem dX5_begin_61 : decode cX5_begin 61 = .ok (.putfield 68, 3) := by decide +kernel
theorem dX5_begin_64 : decode cX5_begin 64 = .ok (.aload_n 0, 1) := by decide +kernel
theorem dX5_begin_65 : decode cX5_begin 65 = .ok (.getfield 68, 3) := by decide +kernel
theorem dX5_begin_68 : decode cX5_begin 68 = .ok (.iconst 1, 1) := by decide +kernel
theorem dX5_begin_69 : decode cX5_begin 69 = .ok (.isub, 1) := by decide +kernel
theorem dX5_begin_70 : decode cX5_begin 70 = .ok (.ireturn, 1) := by decide +kernel
theorem dX5_noNode_0 : decode cX5_noNode 0 = .ok (.iload_n 0, 1) := by decide +kernel
theorem dX5_noNode_1 : decode cX5_noNode 1 = .ok (.ifCond .lt 8, 3) := by decide +kernel
theorem dX5_noNode_4 : decode cX5_noNode 4 = .ok (.iload_n 0, 1) := by decide +kernel
theorem dX5_noNode_5 : decode cX5_noNode 5 = .ok (.iconst 3, 1) := by decide +kernel
theorem dX5_noNode_6 : decode cX5_noNode 6 = .ok (.if_icmp .le 7, 3) := by decide +kernel
theorem dX5_noNode_9 : decode cX5_noNode 9 = .ok (.iconst 1, 1) := by decide +kernel
theorem dX5_noNode_10 : decode cX5_noNode 10 = .ok (.goto 4, 3) := by decide +kernel
theorem dX5_noNode_13 : decode cX5_noNode 13 = .ok (.iconst 0, 1) := by decide +kernel
theorem dX5_noNode_14 : decode cX5_noNode 14 = .ok (.ireturn, 1) := by decide +kernel
theorem dX5_work_0 : decode cX5_work 0 = .ok (.aload_n 0, 1) := by decide +kernel
theorem dX5_work_1 : decode cX5_work 1 = .ok (.iload_n 1, 1) := by decide +kernel
theorem dX5_work_2 : decode cX5_work 2 = .ok (.invokevirtual 126, 3) := by decide +kernel
theorem dX5_work_5 : decode cX5_work 5 = .ok (.ifCond .ne 21, 3) := by decide +kernel
theorem dX5_work_8 : decode cX5_work 8 = .ok (.iload_n 2, 1) := by decide +kernel
theorem dX5_work_9 : decode cX5_work 9 = .ok (.invokestatic 122, 3) := by decide +kernel
theorem dX5_work_12 : decode cX5_work 12 = .ok (.ifCond .ne 14, 3) := by decide +kernel
theorem dX5_work_15 : decode cX5_work 15 = .ok (.iload_n 3, 1) := by decide +kernel
theorem dX5_work_16 : decode cX5_work 16 = .ok (.iconst (-1), 1) := by decide +kernel
theorem dX5_work_17 : decode cX5_work 17 = .ok (.if_icmp .lt 9, 3) := by decide +kernel
theorem dX5_work_20 : decode cX5_work 20 = .ok (.iload_n 3, 1) := by decide +kernel
theorem dX5_work_21 : decode cX5_work 21 = .ok (.bipush 7, 2) := by decide +kernel
theorem dX5_work_23 : decode cX5_work 23 = .ok (.if_icmp .le 6, 3) := by decide +kernel
theorem dX5_work_26 : decode cX5_work 26 = .ok (.bipush (-2), 2) := by decide +kernel
theorem dX5_work_28 : decode cX5_work 28 = .ok (.ireturn, 1) := by decide +kernel
theorem dX5_work_29 : decode cX5_work 29 = .ok (.iconst 4, 1) := by decide +kernel
theorem dX5_work_30 : decode cX5_work 30 = .ok (.iload_n 1, 1) := by decide +kernel
theorem dX5_work_31 : decode cX5_work 31 = .ok (.imul, 1) := by decide +kernel
theorem dX5_work_32 : decode cX5_work 32 = .ok (.iload_n 2, 1) := by decide +kernel
theorem dX5_work_33 : decode cX5_work 33 = .ok (.iadd, 1) := by decide +kernel
theorem dX5_work_34 : decode cX5_work 34 = .ok (.istore 4, 2) := by decide +kernel
theorem dX5_work_36 : decode cX5_work 36 = .ok (.aload_n 0, 1) := by decide +kernel
theorem dX5_work_37 : decode cX5_work 37 = .ok (.getfield 7, 3) := by decide +kernel
theorem dX5_work_40 : decode cX5_work 40 = .ok (.iload_n 2, 1) := by decide +kernel
theorem dX5_work_41 : decode cX5_work 41 = .ok (.baload, 1) := by decide +kernel
theorem dX5_work_42 : decode cX5_work 42 = .ok (.ifCond .ne 17, 3) := by decide +kernel
theorem dX5_work_45 : decode cX5_work 45 = .ok (.aload_n 0, 1) := by decide +kernel
theorem dX5_work_46 : decode cX5_work 46 = .ok (.getfield 7, 3) := by decide +kernel
theorem dX5_work_49 : decode cX5_work 49 = .ok (.aload_n 0, 1) := by decide +kernel
theorem dX5_work_50 : decode cX5_work 50 = .ok (.getfield 17, 3) := by decide +kernel
theorem dX5_work_53 : decode cX5_work 53 = .ok (.iload_n 1, 1) := by decide +kernel
theorem dX5_work_54 : decode cX5_work 54 = .ok (.iaload, 1) := by decide +kernel
theorem dX5_work_55 : decode cX5_work 55 = .ok (.baload, 1) := by decide +kernel
theorem dX5_work_56 : decode cX5_work 56 = .ok (.ifCond .eq 6, 3) := by decide +kernel
theorem dX5_work_59 : decode cX5_work 59 = .ok (.bipush (-3), 2) := by decide +kernel
theorem dX5_work_61 : decode cX5_work 61 = .ok (.ireturn, 1) := by decide +kernel
theorem dX5_work_62 : decode cX5_work 62 = .ok (.aload_n 0, 1) := by decide +kernel
theorem dX5_work_63 : decode cX5_work 63 = .ok (.getfield 20, 3) := by decide +kernel
theorem dX5_work_66 : decode cX5_work 66 = .ok (.iload_n 1, 1) := by decide +kernel
theorem dX5_work_67 : decode cX5_work 67 = .ok (.iaload, 1) := by decide +kernel
theorem dX5_work_68 : decode cX5_work 68 = .ok (.iconst 1, 1) := by decide +kernel
theorem dX5_work_69 : decode cX5_work 69 = .ok (.if_icmp .ne 23, 3) := by decide +kernel
theorem dX5_work_72 : decode cX5_work 72 = .ok (.aload_n 0, 1) := by decide +kernel
theorem dX5_work_73 : decode cX5_work 73 = .ok (.getfield 23, 3) := by decide +kernel
theorem dX5_work_76 : decode cX5_work 76 = .ok (.iload 4, 2) := by decide +kernel
theorem dX5_work_78 : decode cX5_work 78 = .ok (.baload, 1) := by decide +kernel
theorem dX5_work_79 : decode cX5_work 79 = .ok (.ifCond .eq 16, 3) := by decide +kernel
theorem dX5_work_82 : decode cX5_work 82 = .ok (.aload_n 0, 1) := by decide +kernel
theorem dX5_work_83 : decode cX5_work 83 = .ok (.getfield 35, 3) := by decide +kernel
theorem dX5_work_86 : decode cX5_work 86 = .ok (.iload 4, 2) := by decide +kernel
theorem dX5_work_88 : decode cX5_work 88 = .ok (.iaload, 1) := by decide +kernel
theorem dX5_work_89 : decode cX5_work 89 = .ok (.ifCond .ne 6, 3) := by decide +kernel
theorem dX5_work_92 : decode cX5_work 92 = .ok (.bipush (-4), 2) := by decide +kernel
theorem dX5_work_94 : decode cX5_work 94 = .ok (.ireturn, 1) := by decide +kernel
theorem dX5_work_95 : decode cX5_work 95 = .ok (.aload_n 0, 1) := by decide +kernel
theorem dX5_work_96 : decode cX5_work 96 = .ok (.getfield 23, 3) := by decide +kernel
theorem dX5_work_99 : decode cX5_work 99 = .ok (.iload 4, 2) := by decide +kernel
theorem dX5_work_101 : decode cX5_work 101 = .ok (.baload, 1) := by decide +kernel
theorem dX5_work_102 : decode cX5_work 102 = .ok (.ifCond .ne 19, 3) := by decide +kernel
theorem dX5_work_105 : decode cX5_work 105 = .ok (.aload_n 0, 1) := by decide +kernel
theorem dX5_work_106 : decode cX5_work 106 = .ok (.getfield 23, 3) := by decide +kernel
theorem dX5_work_109 : decode cX5_work 109 = .ok (.iload 4, 2) := by decide +kernel
theorem dX5_work_111 : decode cX5_work 111 = .ok (.iconst 1, 1) := by decide +kernel
theorem dX5_work_112 : decode cX5_work 112 = .ok (.bastore, 1) := by decide +kernel
theorem dX5_work_113 : decode cX5_work 113 = .ok (.aload_n 0, 1) := by decide +kernel
theorem dX5_work_114 : decode cX5_work 114 = .ok (.getfield 35, 3) := by decide +kernel
theorem dX5_work_117 : decode cX5_work 117 = .ok (.iload 4, 2) := by decide +kernel
theorem dX5_work_119 : decode cX5_work 119 = .ok (.iconst 1, 1) := by decide +kernel
theorem dX5_work_120 : decode cX5_work 120 = .ok (.iastore, 1) := by decide +kernel
theorem dX5_work_121 : decode cX5_work 121 = .ok (.iload_n 3, 1) := by decide +kernel
theorem dX5_work_122 : decode cX5_work 122 = .ok (.ifCond .ge 7, 3) := by decide +kernel
theorem dX5_work_125 : decode cX5_work 125 = .ok (.iconst 0, 1) := by decide +kernel
theorem dX5_work_126 : decode cX5_work 126 = .ok (.goto 14, 3) := by decide +kernel
theorem dX5_work_129 : decode cX5_work 129 = .ok (.aload_n 0, 1) := by decide +kernel
theorem dX5_work_130 : decode cX5_work 130 = .ok (.getfield 38, 3) := by decide +kernel
theorem dX5_work_133 : decode cX5_work 133 = .ok (.bipush 8, 2) := by decide +kernel
theorem dX5_work_135 : decode cX5_work 135 = .ok (.iload_n 2, 1) := by decide +kernel
theorem dX5_work_136 : decode cX5_work 136 = .ok (.imul, 1) := by decide +kernel
theorem dX5_work_137 : decode cX5_work 137 = .ok (.iload_n 3, 1) := by decide +kernel
theorem dX5_work_138 : decode cX5_work 138 = .ok (.iadd, 1) := by decide +kernel
theorem dX5_work_139 : decode cX5_work 139 = .ok (.iaload, 1) := by decide +kernel
theorem dX5_work_140 : decode cX5_work 140 = .ok (.istore 5, 2) := by decide +kernel
theorem dX5_work_142 : decode cX5_work 142 = .ok (.iload 5, 2) := by decide +kernel
theorem dX5_work_144 : decode cX5_work 144 = .ok (.ifCond .eq 19, 3) := by decide +kernel
theorem dX5_work_147 : decode cX5_work 147 = .ok (.iload 5, 2) := by decide +kernel
theorem dX5_work_149 : decode cX5_work 149 = .ok (.iload_n 1, 1) := by decide +kernel
theorem dX5_work_150 : decode cX5_work 150 = .ok (.iconst 1, 1) := by decide +kernel
theorem dX5_work_151 : decode cX5_work 151 = .ok (.iadd, 1) := by decide +kernel
theorem dX5_work_152 : decode cX5_work 152 = .ok (.if_icmp .eq 11, 3) := by decide +kernel
theorem dX5_work_155 : decode cX5_work 155 = .ok (.aload_n 0, 1) := by decide +kernel
theorem dX5_work_156 : decode cX5_work 156 = .ok (.getfield 35, 3) := by decide +kernel
theorem dX5_work_159 : decode cX5_work 159 = .ok (.iload 4, 2) := by decide +kernel
theorem dX5_work_161 : decode cX5_work 161 = .ok (.iconst 2, 1) := by decide +kernel
theorem dX5_work_162 : decode cX5_work 162 = .ok (.iastore, 1) := by decide +kernel
theorem dX5_work_163 : decode cX5_work 163 = .ok (.aload_n 0, 1) := by decide +kernel
theorem dX5_work_164 : decode cX5_work 164 = .ok (.getfield 35, 3) := by decide +kernel
theorem dX5_work_167 : decode cX5_work 167 = .ok (.iload 4, 2) := by decide +kernel
theorem dX5_work_169 : decode cX5_work 169 = .ok (.iaload, 1) := by decide +kernel
theorem dX5_work_170 : decode cX5_work 170 = .ok (.iconst 2, 1) := by decide +kernel
theorem dX5_work_171 : decode cX5_work 171 = .ok (.if_icmp .ne 5, 3) := by decide +kernel
theorem dX5_work_174 : decode cX5_work 174 = .ok (.iconst 0, 1) := by decide +kernel
theorem dX5_work_175 : decode cX5_work 175 = .ok (.ireturn, 1) := by decide +kernel
theorem dX5_work_176 : decode cX5_work 176 = .ok (.iload_n 3, 1) := by decide +kernel
theorem dX5_work_177 : decode cX5_work 177 = .ok (.ifCond .lt 17, 3) := by decide +kernel
theorem dX5_work_180 : decode cX5_work 180 = .ok (.aload_n 0, 1) := by decide +kernel
theorem dX5_work_181 : decode cX5_work 181 = .ok (.getfield 38, 3) := by decide +kernel
theorem dX5_work_184 : decode cX5_work 184 = .ok (.bipush 8, 2) := by decide +kernel
theorem dX5_work_186 : decode cX5_work 186 = .ok (.iload_n 2, 1) := by decide +kernel
theorem dX5_work_187 : decode cX5_work 187 = .ok (.imul, 1) := by decide +kernel
theorem dX5_work_188 : decode cX5_work 188 = .ok (.iload_n 3, 1) := by decide +kernel
theorem dX5_work_189 : decode cX5_work 189 = .ok (.iadd, 1) := by decide +kernel
theorem dX5_work_190 : decode cX5_work 190 = .ok (.iload_n 1, 1) := by decide +kernel
theorem dX5_work_191 : decode cX5_work 191 = .ok (.iconst 1, 1) := by decide +kernel
theorem dX5_work_192 : decode cX5_work 192 = .ok (.iadd, 1) := by decide +kernel
theorem dX5_work_193 : decode cX5_work 193 = .ok (.iastore, 1) := by decide +kernel
theorem dX5_work_194 : decode cX5_work 194 = .ok (.iconst 1, 1) := by decide +kernel
theorem dX5_work_195 : decode cX5_work 195 = .ok (.ireturn, 1) := by decide +kernel
theorem dX5_noWork_0 : decode cX5_noWork 0 = .ok (.iload_n 1, 1) := by decide +kernel
theorem dX5_noWork_1 : decode cX5_noWork 1 = .ok (.ifCond .lt 11, 3) := by decide +kernel
theorem dX5_noWork_4 : decode cX5_noWork 4 = .ok (.iload_n 1, 1) := by decide +kernel
theorem dX5_noWork_5 : decode cX5_noWork 5 = .ok (.aload_n 0, 1) := by decide +kernel
theorem dX5_noWork_6 : decode cX5_noWork 6 = .ok (.getfield 68, 3) := by decide +kernel
theorem dX5_noWork_9 : decode cX5_noWork 9 = .ok (.if_icmp .lt 7, 3) := by decide +kernel
theorem dX5_noWork_12 : decode cX5_noWork 12 = .ok (.iconst 1, 1) := by decide +kernel
theorem dX5_noWork_13 : decode cX5_noWork 13 = .ok (.goto 4, 3) := by decide +kernel
theorem dX5_noWork_16 : decode cX5_noWork 16 = .ok (.iconst 0, 1) := by decide +kernel
theorem dX5_noWork_17 : decode cX5_noWork 17 = .ok (.ireturn, 1) := by decide +kernel
theorem dX5_commit_0 : decode cX5_commit 0 = .ok (.aload_n 0, 1) := by decide +kernel
theorem dX5_commit_1 : decode cX5_commit 1 = .ok (.iload_n 1, 1) := by decide +kernel
theorem dX5_commit_2 : decode cX5_commit 2 = .ok (.invokevirtual 126, 3) := by decide +kernel
theorem dX5_commit_5 : decode cX5_commit 5 = .ok (.ifCond .eq 6, 3) := by decide +kernel
theorem dX5_commit_8 : decode cX5_commit 8 = .ok (.bipush (-2), 2) := by decide +kernel
theorem dX5_commit_10 : decode cX5_commit 10 = .ok (.ireturn, 1) := by decide +kernel
theorem dX5_commit_11 : decode cX5_commit 11 = .ok (.aload_n 0, 1) := by decide +kernel
theorem dX5_commit_12 : decode cX5_commit 12 = .ok (.getfield 7, 3) := by decide +kernel
theorem dX5_commit_15 : decode cX5_commit 15 = .ok (.aload_n 0, 1) := by decide +kernel
theorem dX5_commit_16 : decode cX5_commit 16 = .ok (.getfield 17, 3) := by decide +kernel
theorem dX5_commit_19 : decode cX5_commit 19 = .ok (.iload_n 1, 1) := by decide +kernel
theorem dX5_commit_20 : decode cX5_commit 20 = .ok (.iaload, 1) := by decide +kernel
theorem dX5_commit_21 : decode cX5_commit 21 = .ok (.baload, 1) := by decide +kernel
theorem dX5_commit_22 : decode cX5_commit 22 = .ok (.ifCond .eq 6, 3) := by decide +kernel
theorem dX5_commit_25 : decode cX5_commit 25 = .ok (.bipush (-3), 2) := by decide +kernel
theorem dX5_commit_27 : decode cX5_commit 27 = .ok (.ireturn, 1) := by decide +kernel
theorem dX5_commit_28 : decode cX5_commit 28 = .ok (.aload_n 0, 1) := by decide +kernel
theorem dX5_commit_29 : decode cX5_commit 29 = .ok (.getfield 20, 3) := by decide +kernel
theorem dX5_commit_32 : decode cX5_commit 32 = .ok (.iload_n 1, 1) := by decide +kernel
theorem dX5_commit_33 : decode cX5_commit 33 = .ok (.iaload, 1) := by decide +kernel
theorem dX5_commit_34 : decode cX5_commit 34 = .ok (.iconst 1, 1) := by decide +kernel
theorem dX5_commit_35 : decode cX5_commit 35 = .ok (.if_icmp .eq 6, 3) := by decide +kernel
theorem dX5_commit_38 : decode cX5_commit 38 = .ok (.bipush (-4), 2) := by decide +kernel
theorem dX5_commit_40 : decode cX5_commit 40 = .ok (.ireturn, 1) := by decide +kernel
theorem dX5_commit_41 : decode cX5_commit 41 = .ok (.iconst 0, 1) := by decide +kernel
theorem dX5_commit_42 : decode cX5_commit 42 = .ok (.istore_n 2, 1) := by decide +kernel
theorem dX5_commit_43 : decode cX5_commit 43 = .ok (.aload_n 0, 1) := by decide +kernel
theorem dX5_commit_44 : decode cX5_commit 44 = .ok (.getfield 20, 3) := by decide +kernel
theorem dX5_commit_47 : decode cX5_commit 47 = .ok (.iload_n 1, 1) := by decide +kernel
theorem dX5_commit_48 : decode cX5_commit 48 = .ok (.iconst 2, 1) := by decide +kernel
theorem dX5_commit_49 : decode cX5_commit 49 = .ok (.iastore, 1) := by decide +kernel
theorem dX5_commit_50 : decode cX5_commit 50 = .ok (.iconst 0, 1) := by decide +kernel
theorem dX5_commit_51 : decode cX5_commit 51 = .ok (.istore_n 3, 1) := by decide +kernel
theorem dX5_commit_52 : decode cX5_commit 52 = .ok (.iload_n 3, 1) := by decide +kernel
theorem dX5_commit_53 : decode cX5_commit 53 = .ok (.iconst 4, 1) := by decide +kernel
theorem dX5_commit_54 : decode cX5_commit 54 = .ok (.if_icmp .ge 38, 3) := by decide +kernel
theorem dX5_commit_57 : decode cX5_commit 57 = .ok (.aload_n 0, 1) := by decide +kernel
theorem dX5_commit_58 : decode cX5_commit 58 = .ok (.getfield 23, 3) := by decide +kernel
theorem dX5_commit_61 : decode cX5_commit 61 = .ok (.iconst 4, 1) := by decide +kernel
theorem dX5_commit_62 : decode cX5_commit 62 = .ok (.iload_n 1, 1) := by decide +kernel
theorem dX5_commit_63 : decode cX5_commit 63 = .ok (.imul, 1) := by decide +kernel
theorem dX5_commit_64 : decode cX5_commit 64 = .ok (.iload_n 3, 1) := by decide +kernel
theorem dX5_commit_65 : decode cX5_commit 65 = .ok (.iadd, 1) := by decide +kernel
theorem dX5_commit_66 : decode cX5_commit 66 = .ok (.baload, 1) := by decide +kernel
theorem dX5_commit_67 : decode cX5_commit 67 = .ok (.ifCond .eq 19, 3) := by decide +kernel
theorem dX5_commit_70 : decode cX5_commit 70 = .ok (.aload_n 0, 1) := by decide +kernel
theorem dX5_commit_71 : decode cX5_commit 71 = .ok (.iconst 1, 1) := by decide +kernel
theorem dX5_commit_72 : decode cX5_commit 72 = .ok (.aload_n 0, 1) := by decide +kernel
theorem dX5_commit_73 : decode cX5_commit 73 = .ok (.getfield 17, 3) := by decide +kernel
theorem dX5_commit_76 : decode cX5_commit 76 = .ok (.iload_n 1, 1) := by decide +kernel
theorem dX5_commit_77 : decode cX5_commit 77 = .ok (.iaload, 1) := by decide +kernel
theorem dX5_commit_78 : decode cX5_commit 78 = .ok (.iload_n 3, 1) := by decide +kernel
theorem dX5_commit_79 : decode cX5_commit 79 = .ok (.iload_n 1, 1) := by decide +kernel
theorem dX5_commit_80 : decode cX5_commit 80 = .ok (.invokevirtual 83, 3) := by decide +kernel
theorem dX5_commit_83 : decode cX5_commit 83 = .ok (.iinc 2 1, 3) := by decide +kernel
theorem dX5_commit_86 : decode cX5_commit 86 = .ok (.iinc 3 1, 3) := by decide +kernel
theorem dX5_commit_89 : decode cX5_commit 89 = .ok (.goto (-37), 3) := by decide +kernel
theorem dX5_commit_92 : decode cX5_commit 92 = .ok (.iload_n 2, 1) := by decide +kernel
theorem dX5_commit_93 : decode cX5_commit 93 = .ok (.ifCond .ne 8, 3) := by decide +kernel
theorem dX5_commit_96 : decode cX5_commit 96 = .ok (.aload_n 0, 1) := by decide +kernel
theorem dX5_commit_97 : decode cX5_commit 97 = .ok (.iload_n 1, 1) := by decide +kernel
theorem dX5_commit_98 : decode cX5_commit 98 = .ok (.invokevirtual 86, 3) := by decide +kernel
theorem dX5_commit_101 : decode cX5_commit 101 = .ok (.iload_n 2, 1) := by decide +kernel
theorem dX5_commit_102 : decode cX5_commit 102 = .ok (.ireturn, 1) := by decide +kernel
theorem dX5_send_0 : decode cX5_send 0 = .ok (.aload_n 0, 1) := by decide +kernel
theorem dX5_send_1 : decode cX5_send 1 = .ok (.getfield 72, 3) := by decide +kernel
theorem dX5_send_4 : decode cX5_send 4 = .ok (.bipush 40, 2) := by decide +kernel
theorem dX5_send_6 : decode cX5_send 6 = .ok (.if_icmp .ge 54, 3) := by decide +kernel
theorem dX5_send_9 : decode cX5_send 9 = .ok (.aload_n 0, 1) := by decide +kernel
theorem dX5_send_10 : decode cX5_send 10 = .ok (.getfield 56, 3) := by decide +kernel
theorem dX5_send_13 : decode cX5_send 13 = .ok (.aload_n 0, 1) := by decide +kernel
theorem dX5_send_14 : decode cX5_send 14 = .ok (.getfield 72, 3) := by decide +kernel
theorem dX5_send_17 : decode cX5_send 17 = .ok (.iload_n 1, 1) := by decide +kernel
theorem dX5_send_18 : decode cX5_send 18 = .ok (.iastore, 1) := by decide +kernel
theorem dX5_send_19 : decode cX5_send 19 = .ok (.aload_n 0, 1) := by decide +kernel
theorem dX5_send_20 : decode cX5_send 20 = .ok (.getfield 59, 3) := by decide +kernel
theorem dX5_send_23 : decode cX5_send 23 = .ok (.aload_n 0, 1) := by decide +kernel
theorem dX5_send_24 : decode cX5_send 24 = .ok (.getfield 72, 3) := by decide +kernel
theorem dX5_send_27 : decode cX5_send 27 = .ok (.iload_n 2, 1) := by decide +kernel
theorem dX5_send_28 : decode cX5_send 28 = .ok (.iastore, 1) := by decide +kernel
theorem dX5_send_29 : decode cX5_send 29 = .ok (.aload_n 0, 1) := by decide +kernel
theorem dX5_send_30 : decode cX5_send 30 = .ok (.getfield 62, 3) := by decide +kernel
theorem dX5_send_33 : decode cX5_send 33 = .ok (.aload_n 0, 1) := by decide +kernel
theorem dX5_send_34 : decode cX5_send 34 = .ok (.getfield 72, 3) := by decide +kernel
theorem dX5_send_37 : decode cX5_send 37 = .ok (.iload_n 3, 1) := by decide +kernel
theorem dX5_send_38 : decode cX5_send 38 = .ok (.iastore, 1) := by decide +kernel
theorem dX5_send_39 : decode cX5_send 39 = .ok (.aload_n 0, 1) := by decide +kernel
theorem dX5_send_40 : decode cX5_send 40 = .ok (.getfield 65, 3) := by decide +kernel
theorem dX5_send_43 : decode cX5_send 43 = .ok (.aload_n 0, 1) := by decide +kernel
theorem dX5_send_44 : decode cX5_send 44 = .ok (.getfield 72, 3) := by decide +kernel
theorem dX5_send_47 : decode cX5_send 47 = .ok (.iload 4, 2) := by decide +kernel
theorem dX5_send_49 : decode cX5_send 49 = .ok (.iastore, 1) := by decide +kernel
theorem dX5_send_50 : decode cX5_send 50 = .ok (.aload_n 0, 1) := by decide +kernel
theorem dX5_send_51 : decode cX5_send 51 = .ok (.dup, 1) := by decide +kernel
theorem dX5_send_52 : decode cX5_send 52 = .ok (.getfield 72, 3) := by decide +kernel
theorem dX5_send_55 : decode cX5_send 55 = .ok (.iconst 1, 1) := by decide +kernel
theorem dX5_send_56 : decode cX5_send 56 = .ok (.iadd, 1) := by decide +kernel
