theorem dX0_init_0 : decode cX0_init 0 = .ok (.aload_n 0, 1) := by decide +kernel
theorem dX0_init_1 : decode cX0_init 1 = .ok (.invokespecial 3, 3) := by decide +kernel
theorem dX0_init_4 : decode cX0_init 4 = .ok (.aload_n 0, 1) := by decide +kernel
theorem dX0_init_5 : decode cX0_init 5 = .ok (.sipush 400, 3) := by decide +kernel
theorem dX0_init_8 : decode cX0_init 8 = .ok (.newarray .int, 2) := by decide +kernel
theorem dX0_init_10 : decode cX0_init 10 = .ok (.putfield 9, 3) := by decide +kernel
theorem dX0_init_13 : decode cX0_init 13 = .ok (.aload_n 0, 1) := by decide +kernel
theorem dX0_init_14 : decode cX0_init 14 = .ok (.iconst 0, 1) := by decide +kernel
theorem dX0_init_15 : decode cX0_init 15 = .ok (.putfield 15, 3) := by decide +kernel
theorem dX0_init_18 : decode cX0_init 18 = .ok (.return_, 1) := by decide +kernel
theorem dX0_keep_0 : decode cX0_keep 0 = .ok (.aload_n 0, 1) := by decide +kernel
theorem dX0_keep_1 : decode cX0_keep 1 = .ok (.getfield 15, 3) := by decide +kernel
theorem dX0_keep_4 : decode cX0_keep 4 = .ok (.bipush 20, 2) := by decide +kernel
theorem dX0_keep_6 : decode cX0_keep 6 = .ok (.if_icmp .lt 5, 3) := by decide +kernel
theorem dX0_keep_9 : decode cX0_keep 9 = .ok (.iconst 0, 1) := by decide +kernel
theorem dX0_keep_10 : decode cX0_keep 10 = .ok (.ireturn, 1) := by decide +kernel
theorem dX0_keep_11 : decode cX0_keep 11 = .ok (.aload_n 1, 1) := by decide +kernel
theorem dX0_keep_12 : decode cX0_keep 12 = .ok (.iconst 0, 1) := by decide +kernel
theorem dX0_keep_13 : decode cX0_keep 13 = .ok (.aload_n 0, 1) := by decide +kernel
theorem dX0_keep_14 : decode cX0_keep 14 = .ok (.getfield 9, 3) := by decide +kernel
theorem dX0_keep_17 : decode cX0_keep 17 = .ok (.aload_n 0, 1) := by decide +kernel
theorem dX0_keep_18 : decode cX0_keep 18 = .ok (.getfield 15, 3) := by decide +kernel
theorem dX0_keep_21 : decode cX0_keep 21 = .ok (.bipush 20, 2) := by decide +kernel
theorem dX0_keep_23 : decode cX0_keep 23 = .ok (.imul, 1) := by decide +kernel
theorem dX0_keep_24 : decode cX0_keep 24 = .ok (.bipush 20, 2) := by decide +kernel
theorem dX0_keep_26 : decode cX0_keep 26 = .ok (.invokestatic 19, 3) := by decide +kernel
theorem dX0_keep_29 : decode cX0_keep 29 = .ok (.aload_n 0, 1) := by decide +kernel
theorem dX0_keep_30 : decode cX0_keep 30 = .ok (.dup, 1) := by decide +kernel
theorem dX0_keep_31 : decode cX0_keep 31 = .ok (.getfield 15, 3) := by decide +kernel
theorem dX0_keep_34 : decode cX0_keep 34 = .ok (.iconst 1, 1) := by decide +kernel
theorem dX0_keep_35 : decode cX0_keep 35 = .ok (.iadd, 1) := by decide +kernel
theorem dX0_keep_36 : decode cX0_keep 36 = .ok (.putfield 15, 3) := by decide +kernel
theorem dX0_keep_39 : decode cX0_keep 39 = .ok (.iconst 1, 1) := by decide +kernel
theorem dX0_keep_40 : decode cX0_keep 40 = .ok (.ireturn, 1) := by decide +kernel
theorem dX0_backTo_0 : decode cX0_backTo 0 = .ok (.iload_n 1, 1) := by decide +kernel
theorem dX0_backTo_1 : decode cX0_backTo 1 = .ok (.ifCond .lt 31, 3) := by decide +kernel
theorem dX0_backTo_4 : decode cX0_backTo 4 = .ok (.iload_n 1, 1) := by decide +kernel
theorem dX0_backTo_5 : decode cX0_backTo 5 = .ok (.aload_n 0, 1) := by decide +kernel
theorem dX0_backTo_6 : decode cX0_backTo 6 = .ok (.getfield 15, 3) := by decide +kernel
theorem dX0_backTo_9 : decode cX0_backTo 9 = .ok (.if_icmp .ge 23, 3) := by decide +kernel
theorem dX0_backTo_12 : decode cX0_backTo 12 = .ok (.aload_n 0, 1) := by decide +kernel
theorem dX0_backTo_13 : decode cX0_backTo 13 = .ok (.getfield 9, 3) := by decide +kernel
theorem dX0_backTo_16 : decode cX0_backTo 16 = .ok (.iload_n 1, 1) := by decide +kernel
theorem dX0_backTo_17 : decode cX0_backTo 17 = .ok (.bipush 20, 2) := by decide +kernel
theorem dX0_backTo_19 : decode cX0_backTo 19 = .ok (.imul, 1) := by decide +kernel
theorem dX0_backTo_20 : decode cX0_backTo 20 = .ok (.aload_n 2, 1) := by decide +kernel
theorem dX0_backTo_21 : decode cX0_backTo 21 = .ok (.iconst 0, 1) := by decide +kernel
theorem dX0_backTo_22 : decode cX0_backTo 22 = .ok (.bipush 20, 2) := by decide +kernel
theorem dX0_backTo_24 : decode cX0_backTo 24 = .ok (.invokestatic 19, 3) := by decide +kernel
theorem dX0_backTo_27 : decode cX0_backTo 27 = .ok (.aload_n 0, 1) := by decide +kernel
theorem dX0_backTo_28 : decode cX0_backTo 28 = .ok (.iload_n 1, 1) := by decide +kernel
theorem dX0_backTo_29 : decode cX0_backTo 29 = .ok (.putfield 15, 3) := by decide +kernel
theorem dX0_backTo_32 : decode cX0_backTo 32 = .ok (.return_, 1) := by decide +kernel
theorem dX1_init_0 : decode cX1_init 0 = .ok (.aload_n 0, 1) := by decide +kernel
theorem dX1_init_1 : decode cX1_init 1 = .ok (.invokespecial 3, 3) := by decide +kernel
theorem dX1_init_4 : decode cX1_init 4 = .ok (.aload_n 0, 1) := by decide +kernel
theorem dX1_init_5 : decode cX1_init 5 = .ok (.bipush 20, 2) := by decide +kernel
theorem dX1_init_7 : decode cX1_init 7 = .ok (.newarray .int, 2) := by decide +kernel
theorem dX1_init_9 : decode cX1_init 9 = .ok (.putfield 9, 3) := by decide +kernel
theorem dX1_init_12 : decode cX1_init 12 = .ok (.aload_n 0, 1) := by decide +kernel
theorem dX1_init_13 : decode cX1_init 13 = .ok (.bipush 20, 2) := by decide +kernel
theorem dX1_init_15 : decode cX1_init 15 = .ok (.newarray .int, 2) := by decide +kernel
theorem dX1_init_17 : decode cX1_init 17 = .ok (.putfield 15, 3) := by decide +kernel
theorem dX1_init_20 : decode cX1_init 20 = .ok (.aload_n 0, 1) := by decide +kernel
theorem dX1_init_21 : decode cX1_init 21 = .ok (.sipush 200, 3) := by decide +kernel
theorem dX1_init_24 : decode cX1_init 24 = .ok (.newarray .int, 2) := by decide +kernel
theorem dX1_init_26 : decode cX1_init 26 = .ok (.putfield 18, 3) := by decide +kernel
theorem dX1_init_29 : decode cX1_init 29 = .ok (.aload_n 0, 1) := by decide +kernel
theorem dX1_init_30 : decode cX1_init 30 = .ok (.sipush 200, 3) := by decide +kernel
theorem dX1_init_33 : decode cX1_init 33 = .ok (.newarray .int, 2) := by decide +kernel
theorem dX1_init_35 : decode cX1_init 35 = .ok (.putfield 21, 3) := by decide +kernel
theorem dX1_init_38 : decode cX1_init 38 = .ok (.aload_n 0, 1) := by decide +kernel
theorem dX1_init_39 : decode cX1_init 39 = .ok (.aload_n 1, 1) := by decide +kernel
theorem dX1_init_40 : decode cX1_init 40 = .ok (.putfield 24, 3) := by decide +kernel
theorem dX1_init_43 : decode cX1_init 43 = .ok (.aload_n 0, 1) := by decide +kernel
theorem dX1_init_44 : decode cX1_init 44 = .ok (.aload_n 2, 1) := by decide +kernel
theorem dX1_init_45 : decode cX1_init 45 = .ok (.putfield 28, 3) := by decide +kernel
theorem dX1_init_48 : decode cX1_init 48 = .ok (.return_, 1) := by decide +kernel
theorem dX1_measure_0 : decode cX1_measure 0 = .ok (.aload_n 0, 1) := by decide +kernel
theorem dX1_measure_1 : decode cX1_measure 1 = .ok (.aload_n 1, 1) := by decide +kernel
theorem dX1_measure_2 : decode cX1_measure 2 = .ok (.iload_n 3, 1) := by decide +kernel
theorem dX1_measure_3 : decode cX1_measure 3 = .ok (.invokevirtual 32, 3) := by decide +kernel
theorem dX1_measure_6 : decode cX1_measure 6 = .ok (.aload_n 0, 1) := by decide +kernel
theorem dX1_measure_7 : decode cX1_measure 7 = .ok (.iload_n 2, 1) := by decide +kernel
theorem dX1_measure_8 : decode cX1_measure 8 = .ok (.iconst 1, 1) := by decide +kernel
theorem dX1_measure_9 : decode cX1_measure 9 = .ok (.invokevirtual 36, 3) := by decide +kernel
theorem dX1_measure_12 : decode cX1_measure 12 = .ok (.ireturn, 1) := by decide +kernel
theorem dX1_aim_0 : decode cX1_aim 0 = .ok (.iconst 0, 1) := by decide +kernel
theorem dX1_aim_1 : decode cX1_aim 1 = .ok (.istore_n 3, 1) := by decide +kernel
theorem dX1_aim_2 : decode cX1_aim 2 = .ok (.iload_n 3, 1) := by decide +kernel
theorem dX1_aim_3 : decode cX1_aim 3 = .ok (.aload_n 0, 1) := by decide +kernel
theorem dX1_aim_4 : decode cX1_aim 4 = .ok (.getfield 24, 3) := by decide +kernel
theorem dX1_aim_7 : decode cX1_aim 7 = .ok (.getfield 40, 3) := by decide +kernel
theorem dX1_aim_10 : decode cX1_aim 10 = .ok (.if_icmp .ge 18, 3) := by decide +kernel
theorem dX1_aim_13 : decode cX1_aim 13 = .ok (.aload_n 0, 1) := by decide +kernel
theorem dX1_aim_14 : decode cX1_aim 14 = .ok (.iload_n 3, 1) := by decide +kernel
theorem dX1_aim_15 : decode cX1_aim 15 = .ok (.aload_n 1, 1) := by decide +kernel
theorem dX1_aim_16 : decode cX1_aim 16 = .ok (.iload_n 3, 1) := by decide +kernel
theorem dX1_aim_17 : decode cX1_aim 17 = .ok (.iaload, 1) := by decide +kernel
theorem dX1_aim_18 : decode cX1_aim 18 = .ok (.iload_n 2, 1) := by decide +kernel
theorem dX1_aim_19 : decode cX1_aim 19 = .ok (.invokevirtual 46, 3) := by decide +kernel
theorem dX1_aim_22 : decode cX1_aim 22 = .ok (.iinc 3 1, 3) := by decide +kernel
theorem dX1_aim_25 : decode cX1_aim 25 = .ok (.goto (-23), 3) := by decide +kernel
theorem dX1_aim_28 : decode cX1_aim 28 = .ok (.return_, 1) := by decide +kernel
theorem dX1_aimItem_0 : decode cX1_aimItem 0 = .ok (.aload_n 0, 1) := by decide +kernel
theorem dX1_aimItem_1 : decode cX1_aimItem 1 = .ok (.iload_n 2, 1) := by decide +kernel
theorem dX1_aimItem_2 : decode cX1_aimItem 2 = .ok (.iload_n 3, 1) := by decide +kernel
theorem dX1_aimItem_3 : decode cX1_aimItem 3 = .ok (.invokevirtual 50, 3) := by decide +kernel
theorem dX1_aimItem_6 : decode cX1_aimItem 6 = .ok (.istore 4, 2) := by decide +kernel
theorem dX1_aimItem_8 : decode cX1_aimItem 8 = .ok (.aload_n 0, 1) := by decide +kernel
theorem dX1_aimItem_9 : decode cX1_aimItem 9 = .ok (.getfield 9, 3) := by decide +kernel
theorem dX1_aimItem_12 : decode cX1_aimItem 12 = .ok (.iload_n 1, 1) := by decide +kernel
theorem dX1_aimItem_13 : decode cX1_aimItem 13 = .ok (.iload 4, 2) := by decide +kernel
theorem dX1_aimItem_15 : decode cX1_aimItem 15 = .ok (.iastore, 1) := by decide +kernel
theorem dX1_aimItem_16 : decode cX1_aimItem 16 = .ok (.aload_n 0, 1) := by decide +kernel
theorem dX1_aimItem_17 : decode cX1_aimItem 17 = .ok (.getfield 15, 3) := by decide +kernel
theorem dX1_aimItem_20 : decode cX1_aimItem 20 = .ok (.iload_n 1, 1) := by decide +kernel
theorem dX1_aimItem_21 : decode cX1_aimItem 21 = .ok (.iload 4, 2) := by decide +kernel
theorem dX1_aimItem_23 : decode cX1_aimItem 23 = .ok (.ifCond .le 10, 3) := by decide +kernel
theorem dX1_aimItem_26 : decode cX1_aimItem 26 = .ok (.iload_n 2, 1) := by decide +kernel
theorem dX1_aimItem_27 : decode cX1_aimItem 27 = .ok (.iload 4, 2) := by decide +kernel
theorem dX1_aimItem_29 : decode cX1_aimItem 29 = .ok (.irem, 1) := by decide +kernel
theorem dX1_aimItem_30 : decode cX1_aimItem 30 = .ok (.goto 4, 3) := by decide +kernel
theorem dX1_aimItem_33 : decode cX1_aimItem 33 = .ok (.iconst 0, 1) := by decide +kernel
theorem dX1_aimItem_34 : decode cX1_aimItem 34 = .ok (.iastore, 1) := by decide +kernel
theorem dX1_aimItem_35 : decode cX1_aimItem 35 = .ok (.return_, 1) := by decide +kernel
theorem dX1_walk_0 : decode cX1_walk 0 = .ok (.iconst 0, 1) := by decide +kernel
theorem dX1_walk_1 : decode cX1_walk 1 = .ok (.istore_n 3, 1) := by decide +kernel
theorem dX1_walk_2 : decode cX1_walk 2 = .ok (.iconst 0, 1) := by decide +kernel
theorem dX1_walk_3 : decode cX1_walk 3 = .ok (.istore 4, 2) := by decide +kernel
theorem dX1_walk_5 : decode cX1_walk 5 = .ok (.iconst 0, 1) := by decide +kernel
theorem dX1_walk_6 : decode cX1_walk 6 = .ok (.istore 5, 2) := by decide +kernel
theorem dX1_walk_8 : decode cX1_walk 8 = .ok (.iload 5, 2) := by decide +kernel
theorem dX1_walk_10 : decode cX1_walk 10 = .ok (.aload_n 0, 1) := by decide +kernel
theorem dX1_walk_11 : decode cX1_walk 11 = .ok (.getfield 28, 3) := by decide +kernel
theorem dX1_walk_14 : decode cX1_walk 14 = .ok (.getfield 54, 3) := by decide +kernel
theorem dX1_walk_17 : decode cX1_walk 17 = .ok (.if_icmp .ge 217, 3) := by decide +kernel
theorem dX1_walk_20 : decode cX1_walk 20 = .ok (.aload_n 0, 1) := by decide +kernel
theorem dX1_walk_21 : decode cX1_walk 21 = .ok (.getfield 28, 3) := by decide +kernel
theorem dX1_walk_24 : decode cX1_walk 24 = .ok (.getfield 59, 3) := by decide +kernel
theorem dX1_walk_27 : decode cX1_walk 27 = .ok (.iload 5, 2) := by decide +kernel
theorem dX1_walk_29 : decode cX1_walk 29 = .ok (.iaload, 1) := by decide +kernel
theorem dX1_walk_30 : decode cX1_walk 30 = .ok (.istore 6, 2) := by decide +kernel
theorem dX1_walk_32 : decode cX1_walk 32 = .ok (.aload_n 0, 1) := by decide +kernel
theorem dX1_walk_33 : decode cX1_walk 33 = .ok (.getfield 28, 3) := by decide +kernel
theorem dX1_walk_36 : decode cX1_walk 36 = .ok (.getfield 62, 3) := by decide +kernel
theorem dX1_walk_39 : decode cX1_walk 39 = .ok (.iload 5, 2) := by decide +kernel
theorem dX1_walk_41 : decode cX1_walk 41 = .ok (.iaload, 1) := by decide +kernel
theorem dX1_walk_42 : decode cX1_walk 42 = .ok (.istore 7, 2) := by decide +kernel
theorem dX1_walk_44 : decode cX1_walk 44 = .ok (.iload_n 3, 1) := by decide +kernel
theorem dX1_walk_45 : decode cX1_walk 45 = .ok (.aload_n 0, 1) := by decide +kernel
theorem dX1_walk_46 : decode cX1_walk 46 = .ok (.getfield 9, 3) := by decide +kernel
theorem dX1_walk_49 : decode cX1_walk 49 = .ok (.iload 6, 2) := by decide +kernel
theorem dX1_walk_51 : decode cX1_walk 51 = .ok (.iaload, 1) := by decide +kernel
theorem dX1_walk_52 : decode cX1_walk 52 = .ok (.aload_n 0, 1) := by decide +kernel
theorem dX1_walk_53 : decode cX1_walk 53 = .ok (.getfield 15, 3) := by decide +kernel
theorem dX1_walk_56 : decode cX1_walk 56 = .ok (.iload 6, 2) := by decide +kernel
theorem dX1_walk_58 : decode cX1_walk 58 = .ok (.iaload, 1) := by decide +kernel
theorem dX1_walk_59 : decode cX1_walk 59 = .ok (.invokestatic 65, 3) := by decide +kernel
theorem dX1_walk_62 : decode cX1_walk 62 = .ok (.istore 8, 2) := by decide +kernel
theorem dX1_walk_64 : decode cX1_walk 64 = .ok (.aload_n 0, 1) := by decide +kernel
theorem dX1_walk_65 : decode cX1_walk 65 = .ok (.getfield 21, 3) := by decide +kernel
theorem dX1_walk_68 : decode cX1_walk 68 = .ok (.iload 5, 2) := by decide +kernel
theorem dX1_walk_70 : decode cX1_walk 70 = .ok (.iload 8, 2) := by decide +kernel
theorem dX1_walk_72 : decode cX1_walk 72 = .ok (.iastore, 1) := by decide +kernel
theorem dX1_walk_73 : decode cX1_walk 73 = .ok (.aload_n 0, 1) := by decide +kernel
theorem dX1_walk_74 : decode cX1_walk 74 = .ok (.getfield 18, 3) := by decide +kernel
theorem dX1_walk_77 : decode cX1_walk 77 = .ok (.iload 5, 2) := by decide +kernel
theorem dX1_walk_79 : decode cX1_walk 79 = .ok (.iload_n 3, 1) := by decide +kernel
theorem dX1_walk_80 : decode cX1_walk 80 = .ok (.iload 8, 2) := by decide +kernel
theorem dX1_walk_82 : decode cX1_walk 82 = .ok (.iadd, 1) := by decide +kernel
theorem dX1_walk_83 : decode cX1_walk 83 = .ok (.iastore, 1) := by decide +kernel
theorem dX1_walk_84 : decode cX1_walk 84 = .ok (.iload_n 3, 1) := by decide +kernel
theorem dX1_walk_85 : decode cX1_walk 85 = .ok (.iload 8, 2) := by decide +kernel
theorem dX1_walk_87 : decode cX1_walk 87 = .ok (.iadd, 1) := by decide +kernel
theorem dX1_walk_88 : decode cX1_walk 88 = .ok (.iconst 1, 1) := by decide +kernel
theorem dX1_walk_89 : decode cX1_walk 89 = .ok (.iadd, 1) := by decide +kernel
theorem dX1_walk_90 : decode cX1_walk 90 = .ok (.iload 7, 2) := by decide +kernel
theorem dX1_walk_92 : decode cX1_walk 92 = .ok (.iconst 2, 1) := by decide +kernel
theorem dX1_walk_93 : decode cX1_walk 93 = .ok (.if_icmp .ne 13, 3) := by decide +kernel
theorem dX1_walk_96 : decode cX1_walk 96 = .ok (.aload_n 0, 1) := by decide +kernel
theorem dX1_walk_97 : decode cX1_walk 97 = .ok (.getfield 24, 3) := by decide +kernel
theorem dX1_walk_100 : decode cX1_walk 100 = .ok (.getfield 69, 3) := by decide +kernel
theorem dX1_walk_103 : decode cX1_walk 103 = .ok (.goto 4, 3) := by decide +kernel
theorem dX1_walk_106 : decode cX1_walk 106 = .ok (.iconst 0, 1) := by decide +kernel
theorem dX1_walk_107 : decode cX1_walk 107 = .ok (.iadd, 1) := by decide +kernel
theorem dX1_walk_108 : decode cX1_walk 108 = .ok (.istore 4, 2) := by decide +kernel
theorem dX1_walk_110 : decode cX1_walk 110 = .ok (.iload 4, 2) := by decide +kernel
theorem dX1_walk_112 : decode cX1_walk 112 = .ok (.iload 7, 2) := by decide +kernel
theorem dX1_walk_114 : decode cX1_walk 114 = .ok (.ifCond .ne 7, 3) := by decide +kernel
theorem dX1_walk_117 : decode cX1_walk 117 = .ok (.iload_n 1, 1) := by decide +kernel
theorem dX1_walk_118 : decode cX1_walk 118 = .ok (.goto 4, 3) := by decide +kernel
theorem dX1_walk_121 : decode cX1_walk 121 = .ok (.iconst 0, 1) := by decide +kernel
theorem dX1_walk_122 : decode cX1_walk 122 = .ok (.iadd, 1) := by decide +kernel
theorem dX1_walk_123 : decode cX1_walk 123 = .ok (.istore_n 3, 1) := by decide +kernel
theorem dX1_walk_124 : decode cX1_walk 124 = .ok (.iinc 5 1, 3) := by decide +kernel
theorem dX1_walk_127 : decode cX1_walk 127 = .ok (.iload_n 2, 1) := by decide +kernel
theorem dX1_walk_128 : decode cX1_walk 128 = .ok (.ifCond .eq 7, 3) := by decide +kernel
theorem dX1_walk_131 : decode cX1_walk 131 = .ok (.iconst 0, 1) := by decide +kernel
theorem dX1_walk_132 : decode cX1_walk 132 = .ok (.goto 13, 3) := by decide +kernel
theorem dX1_walk_135 : decode cX1_walk 135 = .ok (.aload_n 0, 1) := by decide +kernel
theorem dX1_walk_136 : decode cX1_walk 136 = .ok (.getfield 28, 3) := by decide +kernel
theorem dX1_walk_139 : decode cX1_walk 139 = .ok (.getfield 72, 3) := by decide +kernel
theorem dX1_walk_142 : decode cX1_walk 142 = .ok (.iload 5, 2) := by decide +kernel
theorem dX1_walk_144 : decode cX1_walk 144 = .ok (.iaload, 1) := by decide +kernel
theorem dX1_walk_145 : decode cX1_walk 145 = .ok (.istore 9, 2) := by decide +kernel
theorem dX1_walk_147 : decode cX1_walk 147 = .ok (.aload_n 0, 1) := by decide +kernel
theorem dX1_walk_148 : decode cX1_walk 148 = .ok (.getfield 28, 3) := by decide +kernel
theorem dX1_walk_151 : decode cX1_walk 151 = .ok (.getfield 75, 3) := by decide +kernel
theorem dX1_walk_154 : decode cX1_walk 154 = .ok (.iload 5, 2) := by decide +kernel
theorem dX1_walk_156 : decode cX1_walk 156 = .ok (.iaload, 1) := by decide +kernel
theorem dX1_walk_157 : decode cX1_walk 157 = .ok (.istore 10, 2) := by decide +kernel
theorem dX1_walk_159 : decode cX1_walk 159 = .ok (.iload 9, 2) := by decide +kernel
theorem dX1_walk_161 : decode cX1_walk 161 = .ok (.ifCond .le 70, 3) := by decide +kernel
theorem dX1_walk_164 : decode cX1_walk 164 = .ok (.iload 10, 2) := by decide +kernel
theorem dX1_walk_166 : decode cX1_walk 166 = .ok (.ifCond .le 65, 3) := by decide +kernel
theorem dX1_walk_169 : decode cX1_walk 169 = .ok (.iload 10, 2) := by decide +kernel
theorem dX1_walk_171 : decode cX1_walk 171 = .ok (.iload 5, 2) := by decide +kernel
theorem dX1_walk_173 : decode cX1_walk 173 = .ok (.if_icmp .gt 58, 3) := by decide +kernel
theorem dX1_walk_176 : decode cX1_walk 176 = .ok (.aload_n 0, 1) := by decide +kernel
theorem dX1_walk_177 : decode cX1_walk 177 = .ok (.getfield 18, 3) := by decide +kernel
theorem dX1_walk_180 : decode cX1_walk 180 = .ok (.iload 5, 2) := by decide +kernel
theorem dX1_walk_182 : decode cX1_walk 182 = .ok (.iload 10, 2) := by decide +kernel
theorem dX1_walk_184 : decode cX1_walk 184 = .ok (.isub, 1) := by decide +kernel
theorem dX1_walk_185 : decode cX1_walk 185 = .ok (.iaload, 1) := by decide +kernel
theorem dX1_walk_186 : decode cX1_walk 186 = .ok (.aload_n 0, 1) := by decide +kernel
theorem dX1_walk_187 : decode cX1_walk 187 = .ok (.getfield 21, 3) := by decide +kernel
theorem dX1_walk_190 : decode cX1_walk 190 = .ok (.iload 5, 2) := by decide +kernel
theorem dX1_walk_192 : decode cX1_walk 192 = .ok (.iload 10, 2) := by decide +kernel
theorem dX1_walk_194 : decode cX1_walk 194 = .ok (.isub, 1) := by decide +kernel
theorem dX1_walk_195 : decode cX1_walk 195 = .ok (.iaload, 1) := by decide +kernel
theorem dX1_walk_196 : decode cX1_walk 196 = .ok (.isub, 1) := by decide +kernel
theorem dX1_walk_197 : decode cX1_walk 197 = .ok (.istore 11, 2) := by decide +kernel
theorem dX1_walk_199 : decode cX1_walk 199 = .ok (.iload 4, 2) := by decide +kernel
theorem dX1_walk_201 : decode cX1_walk 201 = .ok (.iload 9, 2) := by decide +kernel
theorem dX1_walk_203 : decode cX1_walk 203 = .ok (.iload_n 3, 1) := by decide +kernel
theorem dX1_walk_204 : decode cX1_walk 204 = .ok (.iload 11, 2) := by decide +kernel
theorem dX1_walk_206 : decode cX1_walk 206 = .ok (.isub, 1) := by decide +kernel
theorem dX1_walk_207 : decode cX1_walk 207 = .ok (.imul, 1) := by decide +kernel
theorem dX1_walk_208 : decode cX1_walk 208 = .ok (.iadd, 1) := by decide +kernel
theorem dX1_walk_209 : decode cX1_walk 209 = .ok (.istore 4, 2) := by decide +kernel
theorem dX1_walk_211 : decode cX1_walk 211 = .ok (.iload_n 3, 1) := by decide +kernel
theorem dX1_walk_212 : decode cX1_walk 212 = .ok (.iload 9, 2) := by decide +kernel
theorem dX1_walk_214 : decode cX1_walk 214 = .ok (.iload_n 3, 1) := by decide +kernel
theorem dX1_walk_215 : decode cX1_walk 215 = .ok (.iload 11, 2) := by decide +kernel
theorem dX1_walk_217 : decode cX1_walk 217 = .ok (.isub, 1) := by decide +kernel
theorem dX1_walk_218 : decode cX1_walk 218 = .ok (.imul, 1) := by decide +kernel
theorem dX1_walk_219 : decode cX1_walk 219 = .ok (.iadd, 1) := by decide +kernel
theorem dX1_walk_220 : decode cX1_walk 220 = .ok (.istore_n 3, 1) := by decide +kernel
theorem dX1_walk_221 : decode cX1_walk 221 = .ok (.iload 5, 2) := by decide +kernel
theorem dX1_walk_223 : decode cX1_walk 223 = .ok (.iload 9, 2) := by decide +kernel
theorem dX1_walk_225 : decode cX1_walk 225 = .ok (.iload 10, 2) := by decide +kernel
theorem dX1_walk_227 : decode cX1_walk 227 = .ok (.imul, 1) := by decide +kernel
theorem dX1_walk_228 : decode cX1_walk 228 = .ok (.iadd, 1) := by decide +kernel
theorem dX1_walk_229 : decode cX1_walk 229 = .ok (.istore 5, 2) := by decide +kernel
theorem dX1_walk_231 : decode cX1_walk 231 = .ok (.goto (-223), 3) := by decide +kernel
theorem dX1_walk_234 : decode cX1_walk 234 = .ok (.iload 4, 2) := by decide +kernel
theorem dX1_walk_236 : decode cX1_walk 236 = .ok (.ireturn, 1) := by decide +kernel
theorem dX1_turnAt_0 : decode cX1_turnAt 0 = .ok (.iload_n 1, 1) := by decide +kernel
theorem dX1_turnAt_1 : decode cX1_turnAt 1 = .ok (.aload_n 0, 1) := by decide +kernel
theorem dX1_turnAt_2 : decode cX1_turnAt 2 = .ok (.getfield 24, 3) := by decide +kernel
theorem dX1_turnAt_5 : decode cX1_turnAt 5 = .ok (.getfield 78, 3) := by decide +kernel
theorem dX1_turnAt_8 : decode cX1_turnAt 8 = .ok (.iconst 1, 1) := by decide +kernel
theorem dX1_turnAt_9 : decode cX1_turnAt 9 = .ok (.isub, 1) := by decide +kernel
theorem dX1_turnAt_10 : decode cX1_turnAt 10 = .ok (.aload_n 0, 1) := by decide +kernel
theorem dX1_turnAt_11 : decode cX1_turnAt 11 = .ok (.getfield 24, 3) := by decide +kernel
theorem dX1_turnAt_14 : decode cX1_turnAt 14 = .ok (.getfield 81, 3) := by decide +kernel
theorem dX1_turnAt_17 : decode cX1_turnAt 17 = .ok (.imul, 1) := by decide +kernel
theorem dX1_turnAt_18 : decode cX1_turnAt 18 = .ok (.if_icmp .lt 7, 3) := by decide +kernel
theorem dX1_turnAt_21 : decode cX1_turnAt 21 = .ok (.iconst 1, 1) := by decide +kernel
theorem dX1_turnAt_22 : decode cX1_turnAt 22 = .ok (.goto 4, 3) := by decide +kernel
theorem dX1_turnAt_25 : decode cX1_turnAt 25 = .ok (.iconst 0, 1) := by decide +kernel
theorem dX1_turnAt_26 : decode cX1_turnAt 26 = .ok (.istore_n 3, 1) := by decide +kernel
theorem dX1_turnAt_27 : decode cX1_turnAt 27 = .ok (.iload_n 3, 1) := by decide +kernel
theorem dX1_turnAt_28 : decode cX1_turnAt 28 = .ok (.ifCond .eq 11, 3) := by decide +kernel
theorem dX1_turnAt_31 : decode cX1_turnAt 31 = .ok (.iload_n 2, 1) := by decide +kernel
theorem dX1_turnAt_32 : decode cX1_turnAt 32 = .ok (.ifCond .le 7, 3) := by decide +kernel
theorem dX1_turnAt_35 : decode cX1_turnAt 35 = .ok (.iload_n 2, 1) := by decide +kernel
theorem dX1_turnAt_36 : decode cX1_turnAt 36 = .ok (.goto 10, 3) := by decide +kernel
theorem dX1_turnAt_39 : decode cX1_turnAt 39 = .ok (.aload_n 0, 1) := by decide +kernel
theorem dX1_turnAt_40 : decode cX1_turnAt 40 = .ok (.getfield 24, 3) := by decide +kernel
theorem dX1_turnAt_43 : decode cX1_turnAt 43 = .ok (.getfield 81, 3) := by decide +kernel
theorem dX1_turnAt_46 : decode cX1_turnAt 46 = .ok (.ireturn, 1) := by decide +kernel
theorem dX1_lostAt_0 : decode cX1_lostAt 0 = .ok (.aload_n 0, 1) := by decide +kernel
theorem dX1_lostAt_1 : decode cX1_lostAt 1 = .ok (.iload_n 2, 1) := by decide +kernel
theorem dX1_lostAt_2 : decode cX1_lostAt 2 = .ok (.aload_n 0, 1) := by decide +kernel
theorem dX1_lostAt_3 : decode cX1_lostAt 3 = .ok (.getfield 24, 3) := by decide +kernel
theorem dX1_lostAt_6 : decode cX1_lostAt 6 = .ok (.getfield 84, 3) := by decide +kernel
theorem dX1_lostAt_9 : decode cX1_lostAt 9 = .ok (.invokevirtual 50, 3) := by decide +kernel
theorem dX1_lostAt_12 : decode cX1_lostAt 12 = .ok (.istore_n 3, 1) := by decide +kernel
theorem dX1_lostAt_13 : decode cX1_lostAt 13 = .ok (.iload_n 3, 1) := by decide +kernel
theorem dX1_lostAt_14 : decode cX1_lostAt 14 = .ok (.ifCond .le 14, 3) := by decide +kernel
theorem dX1_lostAt_17 : decode cX1_lostAt 17 = .ok (.iload_n 1, 1) := by decide +kernel
theorem dX1_lostAt_18 : decode cX1_lostAt 18 = .ok (.iload_n 3, 1) := by decide +kernel
theorem dX1_lostAt_19 : decode cX1_lostAt 19 = .ok (.iload_n 2, 1) := by decide +kernel
theorem dX1_lostAt_20 : decode cX1_lostAt 20 = .ok (.iload_n 3, 1) := by decide +kernel
theorem dX1_lostAt_21 : decode cX1_lostAt 21 = .ok (.irem, 1) := by decide +kernel
theorem dX1_lostAt_22 : decode cX1_lostAt 22 = .ok (.invokestatic 65, 3) := by decide +kernel
theorem dX1_lostAt_25 : decode cX1_lostAt 25 = .ok (.goto 4, 3) := by decide +kernel
theorem dX1_lostAt_28 : decode cX1_lostAt 28 = .ok (.iconst 0, 1) := by decide +kernel
theorem dX1_lostAt_29 : decode cX1_lostAt 29 = .ok (.ireturn, 1) := by decide +kernel
theorem dX1_lostFrom_0 : decode cX1_lostFrom 0 = .ok (.iload_n 1, 1) := by decide +kernel
theorem dX1_lostFrom_1 : decode cX1_lostFrom 1 = .ok (.iconst 1, 1) := by decide +kernel
theorem dX1_lostFrom_2 : decode cX1_lostFrom 2 = .ok (.if_icmp .ge 5, 3) := by decide +kernel
theorem dX1_lostFrom_5 : decode cX1_lostFrom 5 = .ok (.iconst 0, 1) := by decide +kernel
theorem dX1_lostFrom_6 : decode cX1_lostFrom 6 = .ok (.ireturn, 1) := by decide +kernel
theorem dX1_lostFrom_7 : decode cX1_lostFrom 7 = .ok (.iload_n 2, 1) := by decide +kernel
theorem dX1_lostFrom_8 : decode cX1_lostFrom 8 = .ok (.iload_n 0, 1) := by decide +kernel
theorem dX1_lostFrom_9 : decode cX1_lostFrom 9 = .ok (.iload_n 1, 1) := by decide +kernel
theorem dX1_lostFrom_10 : decode cX1_lostFrom 10 = .ok (.irem, 1) := by decide +kernel
theorem dX1_lostFrom_11 : decode cX1_lostFrom 11 = .ok (.isub, 1) := by decide +kernel
theorem dX1_lostFrom_12 : decode cX1_lostFrom 12 = .ok (.istore_n 3, 1) := by decide +kernel
theorem dX1_lostFrom_13 : decode cX1_lostFrom 13 = .ok (.iload_n 3, 1) := by decide +kernel
theorem dX1_lostFrom_14 : decode cX1_lostFrom 14 = .ok (.ifCond .ge 9, 3) := by decide +kernel
theorem dX1_lostFrom_17 : decode cX1_lostFrom 17 = .ok (.iload_n 3, 1) := by decide +kernel
theorem dX1_lostFrom_18 : decode cX1_lostFrom 18 = .ok (.iload_n 1, 1) := by decide +kernel
theorem dX1_lostFrom_19 : decode cX1_lostFrom 19 = .ok (.iadd, 1) := by decide +kernel
theorem dX1_lostFrom_20 : decode cX1_lostFrom 20 = .ok (.goto 4, 3) := by decide +kernel
theorem dX1_lostFrom_23 : decode cX1_lostFrom 23 = .ok (.iload_n 3, 1) := by decide +kernel
theorem dX1_lostFrom_24 : decode cX1_lostFrom 24 = .ok (.ireturn, 1) := by decide +kernel
theorem dX1_whenOf_0 : decode cX1_whenOf 0 = .ok (.iload_n 1, 1) := by decide +kernel
theorem dX1_whenOf_1 : decode cX1_whenOf 1 = .ok (.ifCond .lt 23, 3) := by decide +kernel
theorem dX1_whenOf_4 : decode cX1_whenOf 4 = .ok (.iload_n 1, 1) := by decide +kernel
theorem dX1_whenOf_5 : decode cX1_whenOf 5 = .ok (.aload_n 0, 1) := by decide +kernel
theorem dX1_whenOf_6 : decode cX1_whenOf 6 = .ok (.getfield 28, 3) := by decide +kernel
theorem dX1_whenOf_9 : decode cX1_whenOf 9 = .ok (.getfield 54, 3) := by decide +kernel
theorem dX1_whenOf_12 : decode cX1_whenOf 12 = .ok (.if_icmp .ge 12, 3) := by decide +kernel
theorem dX1_whenOf_15 : decode cX1_whenOf 15 = .ok (.aload_n 0, 1) := by decide +kernel
theorem dX1_whenOf_16 : decode cX1_whenOf 16 = .ok (.getfield 18, 3) := by decide +kernel
theorem dX1_whenOf_19 : decode cX1_whenOf 19 = .ok (.iload_n 1, 1) := by decide +kernel
theorem dX1_whenOf_20 : decode cX1_whenOf 20 = .ok (.iaload, 1) := by decide +kernel
theorem dX1_whenOf_21 : decode cX1_whenOf 21 = .ok (.goto 4, 3) := by decide +kernel
theorem dX1_whenOf_24 : decode cX1_whenOf 24 = .ok (.iconst (-1), 1) := by decide +kernel
theorem dX1_whenOf_25 : decode cX1_whenOf 25 = .ok (.ireturn, 1) := by decide +kernel
theorem dX1_lostAtFirst_0 : decode cX1_lostAtFirst 0 = .ok (.aload_n 0, 1) := by decide +kernel
theorem dX1_lostAtFirst_1 : decode cX1_lostAtFirst 1 = .ok (.getfield 28, 3) := by decide +kernel
theorem dX1_lostAtFirst_4 : decode cX1_lostAtFirst 4 = .ok (.getfield 54, 3) := by decide +kernel
theorem dX1_lostAtFirst_7 : decode cX1_lostAtFirst 7 = .ok (.ifCond .le 12, 3) := by decide +kernel
theorem dX1_lostAtFirst_10 : decode cX1_lostAtFirst 10 = .ok (.aload_n 0, 1) := by decide +kernel
theorem dX1_lostAtFirst_11 : decode cX1_lostAtFirst 11 = .ok (.getfield 21, 3) := by decide +kernel
theorem dX1_lostAtFirst_14 : decode cX1_lostAtFirst 14 = .ok (.iconst 0, 1) := by decide +kernel
theorem dX1_lostAtFirst_15 : decode cX1_lostAtFirst 15 = .ok (.iaload, 1) := by decide +kernel
theorem dX1_lostAtFirst_16 : decode cX1_lostAtFirst 16 = .ok (.goto 4, 3) := by decide +kernel
theorem dX1_lostAtFirst_19 : decode cX1_lostAtFirst 19 = .ok (.iconst 0, 1) := by decide +kernel
theorem dX1_lostAtFirst_20 : decode cX1_lostAtFirst 20 = .ok (.ireturn, 1) := by decide +kernel
theorem dX1_lostBehindFirst_0 : decode cX1_lostBehindFirst 0 = .ok (.iconst 0, 1) := by decide +kernel
theorem dX1_lostBehindFirst_1 : decode cX1_lostBehindFirst 1 = .ok (.istore_n 1, 1) := by decide +kernel
theorem dX1_lostBehindFirst_2 : decode cX1_lostBehindFirst 2 = .ok (.iconst 1, 1) := by decide +kernel
theorem dX1_lostBehindFirst_3 : decode cX1_lostBehindFirst 3 = .ok (.istore_n 2, 1) := by decide +kernel
theorem dX1_lostBehindFirst_4 : decode cX1_lostBehindFirst 4 = .ok (.iload_n 2, 1) := by decide +kernel
theorem dX1_lostBehindFirst_5 : decode cX1_lostBehindFirst 5 = .ok (.aload_n 0, 1) := by decide +kernel
theorem dX1_lostBehindFirst_6 : decode cX1_lostBehindFirst 6 = .ok (.getfield 28, 3) := by decide +kernel
theorem dX1_lostBehindFirst_9 : decode cX1_lostBehindFirst 9 = .ok (.getfield 54, 3) := by decide +kernel
theorem dX1_lostBehindFirst_12 : decode cX1_lostBehindFirst 12 = .ok (.if_icmp .ge 18, 3) := by decide +kernel
theorem dX1_lostBehindFirst_15 : decode cX1_lostBehindFirst 15 = .ok (.iload_n 1, 1) := by decide +kernel
theorem dX1_lostBehindFirst_16 : decode cX1_lostBehindFirst 16 = .ok (.aload_n 0, 1) := by decide +kernel
theorem dX1_lostBehindFirst_17 : decode cX1_lostBehindFirst 17 = .ok (.getfield 21, 3) := by decide +kernel
theorem dX1_lostBehindFirst_20 : decode cX1_lostBehindFirst 20 = .ok (.iload_n 2, 1) := by decide +kernel
theorem dX1_lostBehindFirst_21 : decode cX1_lostBehindFirst 21 = .ok (.iaload, 1) := by decide +kernel
theorem dX1_lostBehindFirst_22 : decode cX1_lostBehindFirst 22 = .ok (.iadd, 1) := by decide +kernel
theorem dX1_lostBehindFirst_23 : decode cX1_lostBehindFirst 23 = .ok (.istore_n 1, 1) := by decide +kernel
theorem dX1_lostBehindFirst_24 : decode cX1_lostBehindFirst 24 = .ok (.iinc 2 1, 3) := by decide +kernel
theorem dX1_lostBehindFirst_27 : decode cX1_lostBehindFirst 27 = .ok (.goto (-23), 3) := by decide +kernel
theorem dX1_lostBehindFirst_30 : decode cX1_lostBehindFirst 30 = .ok (.iload_n 1, 1) := by decide +kernel
theorem dX1_lostBehindFirst_31 : decode cX1_lostBehindFirst 31 = .ok (.ireturn, 1) := by decide +kernel
theorem dX1_lostOn_0 : decode cX1_lostOn 0 = .ok (.iconst 0, 1) := by decide +kernel
theorem dX1_lostOn_1 : decode cX1_lostOn 1 = .ok (.istore_n 2, 1) := by decide +kernel
theorem dX1_lostOn_2 : decode cX1_lostOn 2 = .ok (.iconst 0, 1) := by decide +kernel
theorem dX1_lostOn_3 : decode cX1_lostOn 3 = .ok (.istore_n 3, 1) := by decide +kernel
theorem dX1_lostOn_4 : decode cX1_lostOn 4 = .ok (.iload_n 3, 1) := by decide +kernel
theorem dX1_lostOn_5 : decode cX1_lostOn 5 = .ok (.aload_n 0, 1) := by decide +kernel
theorem dX1_lostOn_6 : decode cX1_lostOn 6 = .ok (.getfield 28, 3) := by decide +kernel
theorem dX1_lostOn_9 : decode cX1_lostOn 9 = .ok (.getfield 54, 3) := by decide +kernel
theorem dX1_lostOn_12 : decode cX1_lostOn 12 = .ok (.if_icmp .ge 31, 3) := by decide +kernel
theorem dX1_lostOn_15 : decode cX1_lostOn 15 = .ok (.aload_n 0, 1) := by decide +kernel
theorem dX1_lostOn_16 : decode cX1_lostOn 16 = .ok (.getfield 28, 3) := by decide +kernel
theorem dX1_lostOn_19 : decode cX1_lostOn 19 = .ok (.getfield 59, 3) := by decide +kernel
theorem dX1_lostOn_22 : decode cX1_lostOn 22 = .ok (.iload_n 3, 1) := by decide +kernel
theorem dX1_lostOn_23 : decode cX1_lostOn 23 = .ok (.iaload, 1) := by decide +kernel
theorem dX1_lostOn_24 : decode cX1_lostOn 24 = .ok (.iload_n 1, 1) := by decide +kernel
theorem dX1_lostOn_25 : decode cX1_lostOn 25 = .ok (.if_icmp .ne 12, 3) := by decide +kernel
theorem dX1_lostOn_28 : decode cX1_lostOn 28 = .ok (.iload_n 2, 1) := by decide +kernel
theorem dX1_lostOn_29 : decode cX1_lostOn 29 = .ok (.aload_n 0, 1) := by decide +kernel
theorem dX1_lostOn_30 : decode cX1_lostOn 30 = .ok (.getfield 21, 3) := by decide +kernel
theorem dX1_lostOn_33 : decode cX1_lostOn 33 = .ok (.iload_n 3, 1) := by decide +kernel
theorem dX1_lostOn_34 : decode cX1_lostOn 34 = .ok (.iaload, 1) := by decide +kernel
theorem dX1_lostOn_35 : decode cX1_lostOn 35 = .ok (.iadd, 1) := by decide +kernel
theorem dX1_lostOn_36 : decode cX1_lostOn 36 = .ok (.istore_n 2, 1) := by decide +kernel
theorem dX1_lostOn_37 : decode cX1_lostOn 37 = .ok (.iinc 3 1, 3) := by decide +kernel
theorem dX1_lostOn_40 : decode cX1_lostOn 40 = .ok (.goto (-36), 3) := by decide +kernel
theorem dX1_lostOn_43 : decode cX1_lostOn 43 = .ok (.iload_n 2, 1) := by decide +kernel
theorem dX1_lostOn_44 : decode cX1_lostOn 44 = .ok (.ireturn, 1) := by decide +kernel
theorem dX2_init_0 : decode cX2_init 0 = .ok (.aload_n 0, 1) := by decide +kernel
theorem dX2_init_1 : decode cX2_init 1 = .ok (.invokespecial 3, 3) := by decide +kernel
theorem dX2_init_4 : decode cX2_init 4 = .ok (.aload_n 0, 1) := by decide +kernel
theorem dX2_init_5 : decode cX2_init 5 = .ok (.bipush 48, 2) := by decide +kernel
theorem dX2_init_7 : decode cX2_init 7 = .ok (.newarray .boolean, 2) := by decide +kernel
theorem dX2_init_9 : decode cX2_init 9 = .ok (.putfield 9, 3) := by decide +kernel
theorem dX2_init_12 : decode cX2_init 12 = .ok (.aload_n 0, 1) := by decide +kernel
theorem dX2_init_13 : decode cX2_init 13 = .ok (.aload_n 1, 1) := by decide +kernel
theorem dX2_init_14 : decode cX2_init 14 = .ok (.putfield 15, 3) := by decide +kernel
theorem dX2_init_17 : decode cX2_init 17 = .ok (.aload_n 0, 1) := by decide +kernel
theorem dX2_init_18 : decode cX2_init 18 = .ok (.aload_n 2, 1) := by decide +kernel
theorem dX2_init_19 : decode cX2_init 19 = .ok (.putfield 19, 3) := by decide +kernel
theorem dX2_init_22 : decode cX2_init 22 = .ok (.aload_n 0, 1) := by decide +kernel
theorem dX2_init_23 : decode cX2_init 23 = .ok (.aload_n 3, 1) := by decide +kernel
theorem dX2_init_24 : decode cX2_init 24 = .ok (.putfield 23, 3) := by decide +kernel
theorem dX2_init_27 : decode cX2_init 27 = .ok (.return_, 1) := by decide +kernel
theorem dX2_layInOrder_0 : decode cX2_layInOrder 0 = .ok (.aload_n 0, 1) := by decide +kernel
theorem dX2_layInOrder_1 : decode cX2_layInOrder 1 = .ok (.aload_n 1, 1) := by decide +kernel
theorem dX2_layInOrder_2 : decode cX2_layInOrder 2 = .ok (.invokevirtual 27, 3) := by decide +kernel
theorem dX2_layInOrder_5 : decode cX2_layInOrder 5 = .ok (.aload_n 0, 1) := by decide +kernel
theorem dX2_layInOrder_6 : decode cX2_layInOrder 6 = .ok (.aload_n 1, 1) := by decide +kernel
theorem dX2_layInOrder_7 : decode cX2_layInOrder 7 = .ok (.invokevirtual 31, 3) := by decide +kernel
theorem dX2_layInOrder_10 : decode cX2_layInOrder 10 = .ok (.return_, 1) := by decide +kernel
theorem dX2_laySoonest_0 : decode cX2_laySoonest 0 = .ok (.aload_n 0, 1) := by decide +kernel
theorem dX2_laySoonest_1 : decode cX2_laySoonest 1 = .ok (.aload_n 1, 1) := by decide +kernel
theorem dX2_laySoonest_2 : decode cX2_laySoonest 2 = .ok (.invokevirtual 27, 3) := by decide +kernel
theorem dX2_laySoonest_5 : decode cX2_laySoonest 5 = .ok (.iconst 0, 1) := by decide +kernel
theorem dX2_laySoonest_6 : decode cX2_laySoonest 6 = .ok (.istore_n 2, 1) := by decide +kernel
theorem dX2_laySoonest_7 : decode cX2_laySoonest 7 = .ok (.iconst 0, 1) := by decide +kernel
theorem dX2_laySoonest_8 : decode cX2_laySoonest 8 = .ok (.istore_n 3, 1) := by decide +kernel
theorem dX2_laySoonest_9 : decode cX2_laySoonest 9 = .ok (.iload_n 3, 1) := by decide +kernel
theorem dX2_laySoonest_10 : decode cX2_laySoonest 10 = .ok (.aload_n 0, 1) := by decide +kernel
theorem dX2_laySoonest_11 : decode cX2_laySoonest 11 = .ok (.getfield 19, 3) := by decide +kernel
theorem dX2_laySoonest_14 : decode cX2_laySoonest 14 = .ok (.getfield 34, 3) := by decide +kernel
theorem dX2_laySoonest_17 : decode cX2_laySoonest 17 = .ok (.if_icmp .ge 107, 3) := by decide +kernel
theorem dX2_laySoonest_20 : decode cX2_laySoonest 20 = .ok (.aload_n 0, 1) := by decide +kernel
theorem dX2_laySoonest_21 : decode cX2_laySoonest 21 = .ok (.getfield 19, 3) := by decide +kernel
theorem dX2_laySoonest_24 : decode cX2_laySoonest 24 = .ok (.getfield 40, 3) := by decide +kernel
theorem dX2_laySoonest_27 : decode cX2_laySoonest 27 = .ok (.iload_n 3, 1) := by decide +kernel
theorem dX2_laySoonest_28 : decode cX2_laySoonest 28 = .ok (.iaload, 1) := by decide +kernel
theorem dX2_laySoonest_29 : decode cX2_laySoonest 29 = .ok (.istore 4, 2) := by decide +kernel
theorem dX2_laySoonest_31 : decode cX2_laySoonest 31 = .ok (.aload_n 1, 1) := by decide +kernel
theorem dX2_laySoonest_32 : decode cX2_laySoonest 32 = .ok (.iload 4, 2) := by decide +kernel
theorem dX2_laySoonest_34 : decode cX2_laySoonest 34 = .ok (.iaload, 1) := by decide +kernel
theorem dX2_laySoonest_35 : decode cX2_laySoonest 35 = .ok (.iconst (-1), 1) := by decide +kernel
theorem dX2_laySoonest_36 : decode cX2_laySoonest 36 = .ok (.if_icmp .ne 15, 3) := by decide +kernel
theorem dX2_laySoonest_39 : decode cX2_laySoonest 39 = .ok (.aload_n 0, 1) := by decide +kernel
theorem dX2_laySoonest_40 : decode cX2_laySoonest 40 = .ok (.aload_n 1, 1) := by decide +kernel
theorem dX2_laySoonest_41 : decode cX2_laySoonest 41 = .ok (.iload 4, 2) := by decide +kernel
theorem dX2_laySoonest_43 : decode cX2_laySoonest 43 = .ok (.aload_n 0, 1) := by decide +kernel
theorem dX2_laySoonest_44 : decode cX2_laySoonest 44 = .ok (.iload_n 2, 1) := by decide +kernel
theorem dX2_laySoonest_45 : decode cX2_laySoonest 45 = .ok (.invokevirtual 44, 3) := by decide +kernel
theorem dX2_laySoonest_48 : decode cX2_laySoonest 48 = .ok (.invokevirtual 48, 3) := by decide +kernel
theorem dX2_laySoonest_51 : decode cX2_laySoonest 51 = .ok (.aload_n 0, 1) := by decide +kernel
theorem dX2_laySoonest_52 : decode cX2_laySoonest 52 = .ok (.getfield 19, 3) := by decide +kernel
theorem dX2_laySoonest_55 : decode cX2_laySoonest 55 = .ok (.getfield 52, 3) := by decide +kernel
theorem dX2_laySoonest_58 : decode cX2_laySoonest 58 = .ok (.iload_n 3, 1) := by decide +kernel
theorem dX2_laySoonest_59 : decode cX2_laySoonest 59 = .ok (.iaload, 1) := by decide +kernel
theorem dX2_laySoonest_60 : decode cX2_laySoonest 60 = .ok (.istore 5, 2) := by decide +kernel
theorem dX2_laySoonest_62 : decode cX2_laySoonest 62 = .ok (.iload_n 2, 1) := by decide +kernel
theorem dX2_laySoonest_63 : decode cX2_laySoonest 63 = .ok (.aload_n 0, 1) := by decide +kernel
theorem dX2_laySoonest_64 : decode cX2_laySoonest 64 = .ok (.getfield 23, 3) := by decide +kernel
theorem dX2_laySoonest_67 : decode cX2_laySoonest 67 = .ok (.iload_n 2, 1) := by decide +kernel
theorem dX2_laySoonest_68 : decode cX2_laySoonest 68 = .ok (.aload_n 1, 1) := by decide +kernel
theorem dX2_laySoonest_69 : decode cX2_laySoonest 69 = .ok (.iload 4, 2) := by decide +kernel
theorem dX2_laySoonest_71 : decode cX2_laySoonest 71 = .ok (.iaload, 1) := by decide +kernel
theorem dX2_laySoonest_72 : decode cX2_laySoonest 72 = .ok (.invokevirtual 55, 3) := by decide +kernel
theorem dX2_laySoonest_75 : decode cX2_laySoonest 75 = .ok (.iconst 1, 1) := by decide +kernel
theorem dX2_laySoonest_76 : decode cX2_laySoonest 76 = .ok (.iadd, 1) := by decide +kernel
theorem dX2_laySoonest_77 : decode cX2_laySoonest 77 = .ok (.iadd, 1) := by decide +kernel
theorem dX2_laySoonest_78 : decode cX2_laySoonest 78 = .ok (.istore_n 2, 1) := by decide +kernel
theorem dX2_laySoonest_79 : decode cX2_laySoonest 79 = .ok (.iload_n 2, 1) := by decide +kernel
theorem dX2_laySoonest_80 : decode cX2_laySoonest 80 = .ok (.iload 5, 2) := by decide +kernel
theorem dX2_laySoonest_82 : decode cX2_laySoonest 82 = .ok (.ifCond .ne 13, 3) := by decide +kernel
theorem dX2_laySoonest_85 : decode cX2_laySoonest 85 = .ok (.aload_n 0, 1) := by decide +kernel
theorem dX2_laySoonest_86 : decode cX2_laySoonest 86 = .ok (.getfield 15, 3) := by decide +kernel
theorem dX2_laySoonest_89 : decode cX2_laySoonest 89 = .ok (.getfield 61, 3) := by decide +kernel
theorem dX2_laySoonest_92 : decode cX2_laySoonest 92 = .ok (.goto 4, 3) := by decide +kernel
theorem dX2_laySoonest_95 : decode cX2_laySoonest 95 = .ok (.iconst 0, 1) := by decide +kernel
theorem dX2_laySoonest_96 : decode cX2_laySoonest 96 = .ok (.iadd, 1) := by decide +kernel
theorem dX2_laySoonest_97 : decode cX2_laySoonest 97 = .ok (.istore_n 2, 1) := by decide +kernel
theorem dX2_laySoonest_98 : decode cX2_laySoonest 98 = .ok (.iload_n 2, 1) := by decide +kernel
theorem dX2_laySoonest_99 : decode cX2_laySoonest 99 = .ok (.iload 5, 2) := by decide +kernel
theorem dX2_laySoonest_101 : decode cX2_laySoonest 101 = .ok (.iconst 2, 1) := by decide +kernel
theorem dX2_laySoonest_102 : decode cX2_laySoonest 102 = .ok (.if_icmp .ne 13, 3) := by decide +kernel
theorem dX2_laySoonest_105 : decode cX2_laySoonest 105 = .ok (.aload_n 0, 1) := by decide +kernel
theorem dX2_laySoonest_106 : decode cX2_laySoonest 106 = .ok (.getfield 15, 3) := by decide +kernel
theorem dX2_laySoonest_109 : decode cX2_laySoonest 109 = .ok (.getfield 66, 3) := by decide +kernel
theorem dX2_laySoonest_112 : decode cX2_laySoonest 112 = .ok (.goto 4, 3) := by decide +kernel
theorem dX2_laySoonest_115 : decode cX2_laySoonest 115 = .ok (.iconst 0, 1) := by decide +kernel
theorem dX2_laySoonest_116 : decode cX2_laySoonest 116 = .ok (.iadd, 1) := by decide +kernel
theorem dX2_laySoonest_117 : decode cX2_laySoonest 117 = .ok (.istore_n 2, 1) := by decide +kernel
theorem dX2_laySoonest_118 : decode cX2_laySoonest 118 = .ok (.iinc 3 1, 3) := by decide +kernel
theorem dX2_laySoonest_121 : decode cX2_laySoonest 121 = .ok (.goto (-112), 3) := by decide +kernel
theorem dX2_laySoonest_124 : decode cX2_laySoonest 124 = .ok (.aload_n 0, 1) := by decide +kernel
theorem dX2_laySoonest_125 : decode cX2_laySoonest 125 = .ok (.aload_n 1, 1) := by decide +kernel
theorem dX2_laySoonest_126 : decode cX2_laySoonest 126 = .ok (.invokevirtual 31, 3) := by decide +kernel
theorem dX2_laySoonest_129 : decode cX2_laySoonest 129 = .ok (.return_, 1) := by decide +kernel
theorem dX2_layFixed_0 : decode cX2_layFixed 0 = .ok (.iconst 0, 1) := by decide +kernel
theorem dX2_layFixed_1 : decode cX2_layFixed 1 = .ok (.istore_n 2, 1) := by decide +kernel
theorem dX2_layFixed_2 : decode cX2_layFixed 2 = .ok (.iload_n 2, 1) := by decide +kernel
theorem dX2_layFixed_3 : decode cX2_layFixed 3 = .ok (.bipush 48, 2) := by decide +kernel
theorem dX2_layFixed_5 : decode cX2_layFixed 5 = .ok (.if_icmp .ge 16, 3) := by decide +kernel
theorem dX2_layFixed_8 : decode cX2_layFixed 8 = .ok (.aload_n 0, 1) := by decide +kernel
theorem dX2_layFixed_9 : decode cX2_layFixed 9 = .ok (.getfield 9, 3) := by decide +kernel
theorem dX2_layFixed_12 : decode cX2_layFixed 12 = .ok (.iload_n 2, 1) := by decide +kernel
theorem dX2_layFixed_13 : decode cX2_layFixed 13 = .ok (.iconst 0, 1) := by decide +kernel
theorem dX2_layFixed_14 : decode cX2_layFixed 14 = .ok (.bastore, 1) := by decide +kernel
theorem dX2_layFixed_15 : decode cX2_layFixed 15 = .ok (.iinc 2 1, 3) := by decide +kernel
theorem dX2_layFixed_18 : decode cX2_layFixed 18 = .ok (.goto (-16), 3) := by decide +kernel
theorem dX2_layFixed_21 : decode cX2_layFixed 21 = .ok (.iconst 0, 1) := by decide +kernel
theorem dX2_layFixed_22 : decode cX2_layFixed 22 = .ok (.istore_n 2, 1) := by decide +kernel
theorem dX2_layFixed_23 : decode cX2_layFixed 23 = .ok (.iload_n 2, 1) := by decide +kernel
theorem dX2_layFixed_24 : decode cX2_layFixed 24 = .ok (.aload_n 0, 1) := by decide +kernel
theorem dX2_layFixed_25 : decode cX2_layFixed 25 = .ok (.getfield 15, 3) := by decide +kernel
theorem dX2_layFixed_28 : decode cX2_layFixed 28 = .ok (.getfield 69, 3) := by decide +kernel
theorem dX2_layFixed_31 : decode cX2_layFixed 31 = .ok (.if_icmp .ge 24, 3) := by decide +kernel
theorem dX2_layFixed_34 : decode cX2_layFixed 34 = .ok (.aload_n 0, 1) := by decide +kernel
theorem dX2_layFixed_35 : decode cX2_layFixed 35 = .ok (.aload_n 1, 1) := by decide +kernel
theorem dX2_layFixed_36 : decode cX2_layFixed 36 = .ok (.iload_n 2, 1) := by decide +kernel
theorem dX2_layFixed_37 : decode cX2_layFixed 37 = .ok (.aload_n 0, 1) := by decide +kernel
theorem dX2_layFixed_38 : decode cX2_layFixed 38 = .ok (.getfield 15, 3) := by decide +kernel
theorem dX2_layFixed_41 : decode cX2_layFixed 41 = .ok (.getfield 72, 3) := by decide +kernel
theorem dX2_layFixed_44 : decode cX2_layFixed 44 = .ok (.iload_n 2, 1) := by decide +kernel
theorem dX2_layFixed_45 : decode cX2_layFixed 45 = .ok (.iaload, 1) := by decide +kernel
theorem dX2_layFixed_46 : decode cX2_layFixed 46 = .ok (.invokevirtual 48, 3) := by decide +kernel
theorem dX2_layFixed_49 : decode cX2_layFixed 49 = .ok (.iinc 2 1, 3) := by decide +kernel
theorem dX2_layFixed_52 : decode cX2_layFixed 52 = .ok (.goto (-29), 3) := by decide +kernel
theorem dX2_layFixed_55 : decode cX2_layFixed 55 = .ok (.return_, 1) := by decide +kernel
theorem dX2_layRest_0 : decode cX2_layRest 0 = .ok (.iconst 0, 1) := by decide +kernel
theorem dX2_layRest_1 : decode cX2_layRest 1 = .ok (.istore_n 2, 1) := by decide +kernel
theorem dX2_layRest_2 : decode cX2_layRest 2 = .ok (.iload_n 2, 1) := by decide +kernel
theorem dX2_layRest_3 : decode cX2_layRest 3 = .ok (.aload_n 0, 1) := by decide +kernel
theorem dX2_layRest_4 : decode cX2_layRest 4 = .ok (.getfield 15, 3) := by decide +kernel
theorem dX2_layRest_7 : decode cX2_layRest 7 = .ok (.getfield 69, 3) := by decide +kernel
theorem dX2_layRest_10 : decode cX2_layRest 10 = .ok (.if_icmp .ge 26, 3) := by decide +kernel
theorem dX2_layRest_13 : decode cX2_layRest 13 = .ok (.aload_n 1, 1) := by decide +kernel
theorem dX2_layRest_14 : decode cX2_layRest 14 = .ok (.iload_n 2, 1) := by decide +kernel
theorem dX2_layRest_15 : decode cX2_layRest 15 = .ok (.iaload, 1) := by decide +kernel
theorem dX2_layRest_16 : decode cX2_layRest 16 = .ok (.iconst (-1), 1) := by decide +kernel
theorem dX2_layRest_17 : decode cX2_layRest 17 = .ok (.if_icmp .ne 13, 3) := by decide +kernel
theorem dX2_layRest_20 : decode cX2_layRest 20 = .ok (.aload_n 0, 1) := by decide +kernel
theorem dX2_layRest_21 : decode cX2_layRest 21 = .ok (.aload_n 1, 1) := by decide +kernel
theorem dX2_layRest_22 : decode cX2_layRest 22 = .ok (.iload_n 2, 1) := by decide +kernel
theorem dX2_layRest_23 : decode cX2_layRest 23 = .ok (.aload_n 0, 1) := by decide +kernel
theorem dX2_layRest_24 : decode cX2_layRest 24 = .ok (.invokevirtual 75, 3) := by decide +kernel
theorem dX2_layRest_27 : decode cX2_layRest 27 = .ok (.invokevirtual 48, 3) := by decide +kernel
theorem dX2_layRest_30 : decode cX2_layRest 30 = .ok (.iinc 2 1, 3) := by decide +kernel
theorem dX2_layRest_33 : decode cX2_layRest 33 = .ok (.goto (-31), 3) := by decide +kernel
theorem dX2_layRest_36 : decode cX2_layRest 36 = .ok (.return_, 1) := by decide +kernel
theorem dX2_lay_0 : decode cX2_lay 0 = .ok (.aload_n 1, 1) := by decide +kernel
theorem dX2_lay_1 : decode cX2_lay 1 = .ok (.iload_n 2, 1) := by decide +kernel
theorem dX2_lay_2 : decode cX2_lay 2 = .ok (.iload_n 3, 1) := by decide +kernel
theorem dX2_lay_3 : decode cX2_lay 3 = .ok (.iastore, 1) := by decide +kernel
theorem dX2_lay_4 : decode cX2_lay 4 = .ok (.aload_n 0, 1) := by decide +kernel
theorem dX2_lay_5 : decode cX2_lay 5 = .ok (.getfield 15, 3) := by decide +kernel
theorem dX2_lay_8 : decode cX2_lay 8 = .ok (.iload_n 3, 1) := by decide +kernel
theorem dX2_lay_9 : decode cX2_lay 9 = .ok (.invokevirtual 79, 3) := by decide +kernel
theorem dX2_lay_12 : decode cX2_lay 12 = .ok (.ifCond .eq 10, 3) := by decide +kernel
theorem dX2_lay_15 : decode cX2_lay 15 = .ok (.aload_n 0, 1) := by decide +kernel
theorem dX2_lay_16 : decode cX2_lay 16 = .ok (.getfield 9, 3) := by decide +kernel
theorem dX2_lay_19 : decode cX2_lay 19 = .ok (.iload_n 3, 1) := by decide +kernel
theorem dX2_lay_20 : decode cX2_lay 20 = .ok (.iconst 1, 1) := by decide +kernel
theorem dX2_lay_21 : decode cX2_lay 21 = .ok (.bastore, 1) := by decide +kernel
theorem dX2_lay_22 : decode cX2_lay 22 = .ok (.return_, 1) := by decide +kernel
theorem dX2_leastFree_0 : decode cX2_leastFree 0 = .ok (.iconst 0, 1) := by decide +kernel
theorem dX2_leastFree_1 : decode cX2_leastFree 1 = .ok (.istore_n 1, 1) := by decide +kernel
theorem dX2_leastFree_2 : decode cX2_leastFree 2 = .ok (.iload_n 1, 1) := by decide +kernel
theorem dX2_leastFree_3 : decode cX2_leastFree 3 = .ok (.aload_n 0, 1) := by decide +kernel
theorem dX2_leastFree_4 : decode cX2_leastFree 4 = .ok (.getfield 15, 3) := by decide +kernel
theorem dX2_leastFree_7 : decode cX2_leastFree 7 = .ok (.invokevirtual 83, 3) := by decide +kernel
theorem dX2_leastFree_10 : decode cX2_leastFree 10 = .ok (.if_icmp .ge 20, 3) := by decide +kernel
theorem dX2_leastFree_13 : decode cX2_leastFree 13 = .ok (.aload_n 0, 1) := by decide +kernel
theorem dX2_leastFree_14 : decode cX2_leastFree 14 = .ok (.getfield 9, 3) := by decide +kernel
theorem dX2_leastFree_17 : decode cX2_leastFree 17 = .ok (.iload_n 1, 1) := by decide +kernel
theorem dX2_leastFree_18 : decode cX2_leastFree 18 = .ok (.baload, 1) := by decide +kernel
theorem dX2_leastFree_19 : decode cX2_leastFree 19 = .ok (.ifCond .ne 5, 3) := by decide +kernel
theorem dX2_leastFree_22 : decode cX2_leastFree 22 = .ok (.iload_n 1, 1) := by decide +kernel
theorem dX2_leastFree_23 : decode cX2_leastFree 23 = .ok (.ireturn, 1) := by decide +kernel
theorem dX2_leastFree_24 : decode cX2_leastFree 24 = .ok (.iinc 1 1, 3) := by decide +kernel
theorem dX2_leastFree_27 : decode cX2_leastFree 27 = .ok (.goto (-25), 3) := by decide +kernel
theorem dX2_leastFree_30 : decode cX2_leastFree 30 = .ok (.iconst (-1), 1) := by decide +kernel
theorem dX2_leastFree_31 : decode cX2_leastFree 31 = .ok (.ireturn, 1) := by decide +kernel
theorem dX2_soonest_0 : decode cX2_soonest 0 = .ok (.iconst (-1), 1) := by decide +kernel
theorem dX2_soonest_1 : decode cX2_soonest 1 = .ok (.istore_n 2, 1) := by decide +kernel
theorem dX2_soonest_2 : decode cX2_soonest 2 = .ok (.bipush 12, 2) := by decide +kernel
theorem dX2_soonest_4 : decode cX2_soonest 4 = .ok (.istore_n 3, 1) := by decide +kernel
theorem dX2_soonest_5 : decode cX2_soonest 5 = .ok (.iconst 0, 1) := by decide +kernel
theorem dX2_soonest_6 : decode cX2_soonest 6 = .ok (.istore 4, 2) := by decide +kernel
theorem dX2_soonest_8 : decode cX2_soonest 8 = .ok (.iload 4, 2) := by decide +kernel
theorem dX2_soonest_10 : decode cX2_soonest 10 = .ok (.aload_n 0, 1) := by decide +kernel
theorem dX2_soonest_11 : decode cX2_soonest 11 = .ok (.getfield 15, 3) := by decide +kernel
theorem dX2_soonest_14 : decode cX2_soonest 14 = .ok (.invokevirtual 83, 3) := by decide +kernel
theorem dX2_soonest_17 : decode cX2_soonest 17 = .ok (.if_icmp .ge 43, 3) := by decide +kernel
theorem dX2_soonest_20 : decode cX2_soonest 20 = .ok (.aload_n 0, 1) := by decide +kernel
theorem dX2_soonest_21 : decode cX2_soonest 21 = .ok (.getfield 23, 3) := by decide +kernel
theorem dX2_soonest_24 : decode cX2_soonest 24 = .ok (.iload_n 1, 1) := by decide +kernel
theorem dX2_soonest_25 : decode cX2_soonest 25 = .ok (.iload 4, 2) := by decide +kernel
theorem dX2_soonest_27 : decode cX2_soonest 27 = .ok (.invokevirtual 55, 3) := by decide +kernel
theorem dX2_soonest_30 : decode cX2_soonest 30 = .ok (.istore 5, 2) := by decide +kernel
theorem dX2_soonest_32 : decode cX2_soonest 32 = .ok (.aload_n 0, 1) := by decide +kernel
theorem dX2_soonest_33 : decode cX2_soonest 33 = .ok (.getfield 9, 3) := by decide +kernel
theorem dX2_soonest_36 : decode cX2_soonest 36 = .ok (.iload 4, 2) := by decide +kernel
theorem dX2_soonest_38 : decode cX2_soonest 38 = .ok (.baload, 1) := by decide +kernel
theorem dX2_soonest_39 : decode cX2_soonest 39 = .ok (.ifCond .ne 15, 3) := by decide +kernel
theorem dX2_soonest_42 : decode cX2_soonest 42 = .ok (.iload 5, 2) := by decide +kernel
theorem dX2_soonest_44 : decode cX2_soonest 44 = .ok (.iload_n 3, 1) := by decide +kernel
theorem dX2_soonest_45 : decode cX2_soonest 45 = .ok (.if_icmp .ge 9, 3) := by decide +kernel
theorem dX2_soonest_48 : decode cX2_soonest 48 = .ok (.iload 4, 2) := by decide +kernel
theorem dX2_soonest_50 : decode cX2_soonest 50 = .ok (.istore_n 2, 1) := by decide +kernel
theorem dX2_soonest_51 : decode cX2_soonest 51 = .ok (.iload 5, 2) := by decide +kernel
theorem dX2_soonest_53 : decode cX2_soonest 53 = .ok (.istore_n 3, 1) := by decide +kernel
theorem dX2_soonest_54 : decode cX2_soonest 54 = .ok (.iinc 4 1, 3) := by decide +kernel
theorem dX2_soonest_57 : decode cX2_soonest 57 = .ok (.goto (-49), 3) := by decide +kernel
theorem dX2_soonest_60 : decode cX2_soonest 60 = .ok (.iload_n 2, 1) := by decide +kernel
theorem dX2_soonest_61 : decode cX2_soonest 61 = .ok (.ireturn, 1) := by decide +kernel
theorem dX3_init_0 : decode cX3_init 0 = .ok (.aload_n 0, 1) := by decide +kernel
theorem dX3_init_1 : decode cX3_init 1 = .ok (.invokespecial 3, 3) := by decide +kernel
theorem dX3_init_4 : decode cX3_init 4 = .ok (.aload_n 0, 1) := by decide +kernel
theorem dX3_init_5 : decode cX3_init 5 = .ok (.iconst 0, 1) := by decide +kernel
theorem dX3_init_6 : decode cX3_init 6 = .ok (.putfield 9, 3) := by decide +kernel
theorem dX3_init_9 : decode cX3_init 9 = .ok (.aload_n 0, 1) := by decide +kernel
theorem dX3_init_10 : decode cX3_init 10 = .ok (.iconst 0, 1) := by decide +kernel
theorem dX3_init_11 : decode cX3_init 11 = .ok (.putfield 15, 3) := by decide +kernel
theorem dX3_init_14 : decode cX3_init 14 = .ok (.aload_n 0, 1) := by decide +kernel
theorem dX3_init_15 : decode cX3_init 15 = .ok (.iconst 0, 1) := by decide +kernel
theorem dX3_init_16 : decode cX3_init 16 = .ok (.putfield 18, 3) := by decide +kernel
theorem dX3_init_19 : decode cX3_init 19 = .ok (.aload_n 0, 1) := by decide +kernel
theorem dX3_init_20 : decode cX3_init 20 = .ok (.iconst 0, 1) := by decide +kernel
theorem dX3_init_21 : decode cX3_init 21 = .ok (.putfield 21, 3) := by decide +kernel
theorem dX3_init_24 : decode cX3_init 24 = .ok (.aload_n 0, 1) := by decide +kernel
theorem dX3_init_25 : decode cX3_init 25 = .ok (.iconst 0, 1) := by decide +kernel
theorem dX3_init_26 : decode cX3_init 26 = .ok (.putfield 24, 3) := by decide +kernel
theorem dX3_init_29 : decode cX3_init 29 = .ok (.aload_n 0, 1) := by decide +kernel
theorem dX3_init_30 : decode cX3_init 30 = .ok (.iconst 0, 1) := by decide +kernel
theorem dX3_init_31 : decode cX3_init 31 = .ok (.putfield 27, 3) := by decide +kernel
theorem dX3_init_34 : decode cX3_init 34 = .ok (.aload_n 0, 1) := by decide +kernel
theorem dX3_init_35 : decode cX3_init 35 = .ok (.iconst 0, 1) := by decide +kernel
theorem dX3_init_36 : decode cX3_init 36 = .ok (.putfield 30, 3) := by decide +kernel
theorem dX3_init_39 : decode cX3_init 39 = .ok (.aload_n 0, 1) := by decide +kernel
theorem dX3_init_40 : decode cX3_init 40 = .ok (.iconst 0, 1) := by decide +kernel
theorem dX3_init_41 : decode cX3_init 41 = .ok (.putfield 33, 3) := by decide +kernel
theorem dX3_init_44 : decode cX3_init 44 = .ok (.aload_n 0, 1) := by decide +kernel
theorem dX3_init_45 : decode cX3_init 45 = .ok (.iconst 0, 1) := by decide +kernel
theorem dX3_init_46 : decode cX3_init 46 = .ok (.putfield 36, 3) := by decide +kernel
theorem dX3_init_49 : decode cX3_init 49 = .ok (.aload_n 0, 1) := by decide +kernel
theorem dX3_init_50 : decode cX3_init 50 = .ok (.iconst (-1), 1) := by decide +kernel
theorem dX3_init_51 : decode cX3_init 51 = .ok (.putfield 39, 3) := by decide +kernel
theorem dX3_init_54 : decode cX3_init 54 = .ok (.aload_n 0, 1) := by decide +kernel
theorem dX3_init_55 : decode cX3_init 55 = .ok (.bipush 20, 2) := by decide +kernel
theorem dX3_init_57 : decode cX3_init 57 = .ok (.newarray .int, 2) := by decide +kernel
theorem dX3_init_59 : decode cX3_init 59 = .ok (.putfield 42, 3) := by decide +kernel
theorem dX3_init_62 : decode cX3_init 62 = .ok (.aload_n 0, 1) := by decide +kernel
theorem dX3_init_63 : decode cX3_init 63 = .ok (.bipush 20, 2) := by decide +kernel
theorem dX3_init_65 : decode cX3_init 65 = .ok (.newarray .int, 2) := by decide +kernel
theorem dX3_init_67 : decode cX3_init 67 = .ok (.putfield 46, 3) := by decide +kernel
theorem dX3_init_70 : decode cX3_init 70 = .ok (.aload_n 0, 1) := by decide +kernel
theorem dX3_init_71 : decode cX3_init 71 = .ok (.bipush 20, 2) := by decide +kernel
theorem dX3_init_73 : decode cX3_init 73 = .ok (.newarray .int, 2) := by decide +kernel
theorem dX3_init_75 : decode cX3_init 75 = .ok (.putfield 49, 3) := by decide +kernel
theorem dX3_init_78 : decode cX3_init 78 = .ok (.aload_n 0, 1) := by decide +kernel
theorem dX3_init_79 : decode cX3_init 79 = .ok (.bipush 20, 2) := by decide +kernel
theorem dX3_init_81 : decode cX3_init 81 = .ok (.newarray .int, 2) := by decide +kernel
theorem dX3_init_83 : decode cX3_init 83 = .ok (.putfield 52, 3) := by decide +kernel
theorem dX3_init_86 : decode cX3_init 86 = .ok (.aload_n 0, 1) := by decide +kernel
theorem dX3_init_87 : decode cX3_init 87 = .ok (.bipush 20, 2) := by decide +kernel
theorem dX3_init_89 : decode cX3_init 89 = .ok (.newarray .int, 2) := by decide +kernel
theorem dX3_init_91 : decode cX3_init 91 = .ok (.putfield 55, 3) := by decide +kernel
theorem dX3_init_94 : decode cX3_init 94 = .ok (.aload_n 0, 1) := by decide +kernel
theorem dX3_init_95 : decode cX3_init 95 = .ok (.bipush 20, 2) := by decide +kernel
theorem dX3_init_97 : decode cX3_init 97 = .ok (.newarray .int, 2) := by decide +kernel
theorem dX3_init_99 : decode cX3_init 99 = .ok (.putfield 58, 3) := by decide +kernel
theorem dX3_init_102 : decode cX3_init 102 = .ok (.aload_n 0, 1) := by decide +kernel
theorem dX3_init_103 : decode cX3_init 103 = .ok (.bipush 8, 2) := by decide +kernel
theorem dX3_init_105 : decode cX3_init 105 = .ok (.newarray .int, 2) := by decide +kernel
theorem dX3_init_107 : decode cX3_init 107 = .ok (.putfield 61, 3) := by decide +kernel
theorem dX3_init_110 : decode cX3_init 110 = .ok (.aload_n 0, 1) := by decide +kernel
theorem dX3_init_111 : decode cX3_init 111 = .ok (.bipush 20, 2) := by decide +kernel
theorem dX3_init_113 : decode cX3_init 113 = .ok (.newarray .int, 2) := by decide +kernel
theorem dX3_init_115 : decode cX3_init 115 = .ok (.putfield 64, 3) := by decide +kernel
theorem dX3_init_118 : decode cX3_init 118 = .ok (.return_, 1) := by decide +kernel
theorem dX3_clear_0 : decode cX3_clear 0 = .ok (.aload_n 0, 1) := by decide +kernel
theorem dX3_clear_1 : decode cX3_clear 1 = .ok (.iconst 0, 1) := by decide +kernel
theorem dX3_clear_2 : decode cX3_clear 2 = .ok (.putfield 9, 3) := by decide +kernel
theorem dX3_clear_5 : decode cX3_clear 5 = .ok (.aload_n 0, 1) := by decide +kernel
theorem dX3_clear_6 : decode cX3_clear 6 = .ok (.iconst 0, 1) := by decide +kernel
theorem dX3_clear_7 : decode cX3_clear 7 = .ok (.putfield 15, 3) := by decide +kernel
theorem dX3_clear_10 : decode cX3_clear 10 = .ok (.aload_n 0, 1) := by decide +kernel
theorem dX3_clear_11 : decode cX3_clear 11 = .ok (.iconst 0, 1) := by decide +kernel
theorem dX3_clear_12 : decode cX3_clear 12 = .ok (.putfield 18, 3) := by decide +kernel
theorem dX3_clear_15 : decode cX3_clear 15 = .ok (.aload_n 0, 1) := by decide +kernel
theorem dX3_clear_16 : decode cX3_clear 16 = .ok (.iconst 0, 1) := by decide +kernel
theorem dX3_clear_17 : decode cX3_clear 17 = .ok (.putfield 21, 3) := by decide +kernel
theorem dX3_clear_20 : decode cX3_clear 20 = .ok (.aload_n 0, 1) := by decide +kernel
theorem dX3_clear_21 : decode cX3_clear 21 = .ok (.iconst 0, 1) := by decide +kernel
theorem dX3_clear_22 : decode cX3_clear 22 = .ok (.putfield 24, 3) := by decide +kernel
theorem dX3_clear_25 : decode cX3_clear 25 = .ok (.aload_n 0, 1) := by decide +kernel
theorem dX3_clear_26 : decode cX3_clear 26 = .ok (.iconst 0, 1) := by decide +kernel
theorem dX3_clear_27 : decode cX3_clear 27 = .ok (.putfield 27, 3) := by decide +kernel
theorem dX3_clear_30 : decode cX3_clear 30 = .ok (.aload_n 0, 1) := by decide +kernel
theorem dX3_clear_31 : decode cX3_clear 31 = .ok (.iconst 0, 1) := by decide +kernel
theorem dX3_clear_32 : decode cX3_clear 32 = .ok (.putfield 30, 3) := by decide +kernel
theorem dX3_clear_35 : decode cX3_clear 35 = .ok (.aload_n 0, 1) := by decide +kernel
theorem dX3_clear_36 : decode cX3_clear 36 = .ok (.iconst 0, 1) := by decide +kernel
theorem dX3_clear_37 : decode cX3_clear 37 = .ok (.putfield 33, 3) := by decide +kernel
theorem dX3_clear_40 : decode cX3_clear 40 = .ok (.aload_n 0, 1) := by decide +kernel
theorem dX3_clear_41 : decode cX3_clear 41 = .ok (.iconst 0, 1) := by decide +kernel
theorem dX3_clear_42 : decode cX3_clear 42 = .ok (.putfield 36, 3) := by decide +kernel
theorem dX3_clear_45 : decode cX3_clear 45 = .ok (.aload_n 0, 1) := by decide +kernel
theorem dX3_clear_46 : decode cX3_clear 46 = .ok (.iconst (-1), 1) := by decide +kernel
theorem dX3_clear_47 : decode cX3_clear 47 = .ok (.putfield 39, 3) := by decide +kernel
theorem dX3_clear_50 : decode cX3_clear 50 = .ok (.return_, 1) := by decide +kernel
theorem dX3_copyFrom_0 : decode cX3_copyFrom 0 = .ok (.aload_n 0, 1) := by decide +kernel
theorem dX3_copyFrom_1 : decode cX3_copyFrom 1 = .ok (.aload_n 1, 1) := by decide +kernel
theorem dX3_copyFrom_2 : decode cX3_copyFrom 2 = .ok (.getfield 9, 3) := by decide +kernel
theorem dX3_copyFrom_5 : decode cX3_copyFrom 5 = .ok (.putfield 9, 3) := by decide +kernel
theorem dX3_copyFrom_8 : decode cX3_copyFrom 8 = .ok (.aload_n 0, 1) := by decide +kernel
theorem dX3_copyFrom_9 : decode cX3_copyFrom 9 = .ok (.aload_n 1, 1) := by decide +kernel
theorem dX3_copyFrom_10 : decode cX3_copyFrom 10 = .ok (.getfield 15, 3) := by decide +kernel
theorem dX3_copyFrom_13 : decode cX3_copyFrom 13 = .ok (.putfield 15, 3) := by decide +kernel
theorem dX3_copyFrom_16 : decode cX3_copyFrom 16 = .ok (.aload_n 0, 1) := by decide +kernel
theorem dX3_copyFrom_17 : decode cX3_copyFrom 17 = .ok (.aload_n 1, 1) := by decide +kernel
theorem dX3_copyFrom_18 : decode cX3_copyFrom 18 = .ok (.getfield 18, 3) := by decide +kernel
theorem dX3_copyFrom_21 : decode cX3_copyFrom 21 = .ok (.putfield 18, 3) := by decide +kernel
theorem dX3_copyFrom_24 : decode cX3_copyFrom 24 = .ok (.aload_n 0, 1) := by decide +kernel
theorem dX3_copyFrom_25 : decode cX3_copyFrom 25 = .ok (.aload_n 1, 1) := by decide +kernel
theorem dX3_copyFrom_26 : decode cX3_copyFrom 26 = .ok (.getfield 21, 3) := by decide +kernel
theorem dX3_copyFrom_29 : decode cX3_copyFrom 29 = .ok (.putfield 21, 3) := by decide +kernel
theorem dX3_copyFrom_32 : decode cX3_copyFrom 32 = .ok (.aload_n 0, 1) := by decide +kernel
theorem dX3_copyFrom_33 : decode cX3_copyFrom 33 = .ok (.aload_n 1, 1) := by decide +kernel
theorem dX3_copyFrom_34 : decode cX3_copyFrom 34 = .ok (.getfield 24, 3) := by decide +kernel
theorem dX3_copyFrom_37 : decode cX3_copyFrom 37 = .ok (.putfield 24, 3) := by decide +kernel
theorem dX3_copyFrom_40 : decode cX3_copyFrom 40 = .ok (.aload_n 0, 1) := by decide +kernel
theorem dX3_copyFrom_41 : decode cX3_copyFrom 41 = .ok (.aload_n 1, 1) := by decide +kernel
theorem dX3_copyFrom_42 : decode cX3_copyFrom 42 = .ok (.getfield 27, 3) := by decide +kernel
theorem dX3_copyFrom_45 : decode cX3_copyFrom 45 = .ok (.putfield 27, 3) := by decide +kernel
theorem dX3_copyFrom_48 : decode cX3_copyFrom 48 = .ok (.aload_n 0, 1) := by decide +kernel
theorem dX3_copyFrom_49 : decode cX3_copyFrom 49 = .ok (.aload_n 1, 1) := by decide +kernel
theorem dX3_copyFrom_50 : decode cX3_copyFrom 50 = .ok (.getfield 30, 3) := by decide +kernel
theorem dX3_copyFrom_53 : decode cX3_copyFrom 53 = .ok (.putfield 30, 3) := by decide +kernel
theorem dX3_copyFrom_56 : decode cX3_copyFrom 56 = .ok (.aload_n 0, 1) := by decide +kernel
theorem dX3_copyFrom_57 : decode cX3_copyFrom 57 = .ok (.aload_n 1, 1) := by decide +kernel
theorem dX3_copyFrom_58 : decode cX3_copyFrom 58 = .ok (.getfield 33, 3) := by decide +kernel
theorem dX3_copyFrom_61 : decode cX3_copyFrom 61 = .ok (.putfield 33, 3) := by decide +kernel
theorem dX3_copyFrom_64 : decode cX3_copyFrom 64 = .ok (.aload_n 0, 1) := by decide +kernel
theorem dX3_copyFrom_65 : decode cX3_copyFrom 65 = .ok (.aload_n 1, 1) := by decide +kernel
theorem dX3_copyFrom_66 : decode cX3_copyFrom 66 = .ok (.getfield 36, 3) := by decide +kernel
theorem dX3_copyFrom_69 : decode cX3_copyFrom 69 = .ok (.putfield 36, 3) := by decide +kernel
theorem dX3_copyFrom_72 : decode cX3_copyFrom 72 = .ok (.aload_n 0, 1) := by decide +kernel
theorem dX3_copyFrom_73 : decode cX3_copyFrom 73 = .ok (.aload_n 1, 1) := by decide +kernel
theorem dX3_copyFrom_74 : decode cX3_copyFrom 74 = .ok (.getfield 39, 3) := by decide +kernel
theorem dX3_copyFrom_77 : decode cX3_copyFrom 77 = .ok (.putfield 39, 3) := by decide +kernel
theorem dX3_copyFrom_80 : decode cX3_copyFrom 80 = .ok (.aload_n 1, 1) := by decide +kernel
theorem dX3_copyFrom_81 : decode cX3_copyFrom 81 = .ok (.getfield 42, 3) := by decide +kernel
theorem dX3_copyFrom_84 : decode cX3_copyFrom 84 = .ok (.aload_n 0, 1) := by decide +kernel
theorem dX3_copyFrom_85 : decode cX3_copyFrom 85 = .ok (.getfield 42, 3) := by decide +kernel
theorem dX3_copyFrom_88 : decode cX3_copyFrom 88 = .ok (.invokestatic 67, 3) := by decide +kernel
theorem dX3_copyFrom_91 : decode cX3_copyFrom 91 = .ok (.aload_n 1, 1) := by decide +kernel
theorem dX3_copyFrom_92 : decode cX3_copyFrom 92 = .ok (.getfield 46, 3) := by decide +kernel
theorem dX3_copyFrom_95 : decode cX3_copyFrom 95 = .ok (.aload_n 0, 1) := by decide +kernel
theorem dX3_copyFrom_96 : decode cX3_copyFrom 96 = .ok (.getfield 46, 3) := by decide +kernel
theorem dX3_copyFrom_99 : decode cX3_copyFrom 99 = .ok (.invokestatic 67, 3) := by decide +kernel
theorem dX3_copyFrom_102 : decode cX3_copyFrom 102 = .ok (.aload_n 1, 1) := by decide +kernel
theorem dX3_copyFrom_103 : decode cX3_copyFrom 103 = .ok (.getfield 49, 3) := by decide +kernel
theorem dX3_copyFrom_106 : decode cX3_copyFrom 106 = .ok (.aload_n 0, 1) := by decide +kernel
theorem dX3_copyFrom_107 : decode cX3_copyFrom 107 = .ok (.getfield 49, 3) := by decide +kernel
theorem dX3_copyFrom_110 : decode cX3_copyFrom 110 = .ok (.invokestatic 67, 3) := by decide +kernel
theorem dX3_copyFrom_113 : decode cX3_copyFrom 113 = .ok (.aload_n 1, 1) := by decide +kernel
theorem dX3_copyFrom_114 : decode cX3_copyFrom 114 = .ok (.getfield 52, 3) := by decide +kernel
theorem dX3_copyFrom_117 : decode cX3_copyFrom 117 = .ok (.aload_n 0, 1) := by decide +kernel
theorem dX3_copyFrom_118 : decode cX3_copyFrom 118 = .ok (.getfield 52, 3) := by decide +kernel
theorem dX3_copyFrom_121 : decode cX3_copyFrom 121 = .ok (.invokestatic 67, 3) := by decide +kernel
theorem dX3_copyFrom_124 : decode cX3_copyFrom 124 = .ok (.aload_n 1, 1) := by decide +kernel
theorem dX3_copyFrom_125 : decode cX3_copyFrom 125 = .ok (.getfield 55, 3) := by decide +kernel
theorem dX3_copyFrom_128 : decode cX3_copyFrom 128 = .ok (.aload_n 0, 1) := by decide +kernel
theorem dX3_copyFrom_129 : decode cX3_copyFrom 129 = .ok (.getfield 55, 3) := by decide +kernel
theorem dX3_copyFrom_132 : decode cX3_copyFrom 132 = .ok (.invokestatic 67, 3) := by decide +kernel
theorem dX3_copyFrom_135 : decode cX3_copyFrom 135 = .ok (.aload_n 1, 1) := by decide +kernel
theorem dX3_copyFrom_136 : decode cX3_copyFrom 136 = .ok (.getfield 58, 3) := by decide +kernel
theorem dX3_copyFrom_139 : decode cX3_copyFrom 139 = .ok (.aload_n 0, 1) := by decide +kernel
theorem dX3_copyFrom_140 : decode cX3_copyFrom 140 = .ok (.getfield 58, 3) := by decide +kernel
theorem dX3_copyFrom_143 : decode cX3_copyFrom 143 = .ok (.invokestatic 67, 3) := by decide +kernel
theorem dX3_copyFrom_146 : decode cX3_copyFrom 146 = .ok (.aload_n 1, 1) := by decide +kernel
theorem dX3_copyFrom_147 : decode cX3_copyFrom 147 = .ok (.getfield 64, 3) := by decide +kernel
theorem dX3_copyFrom_150 : decode cX3_copyFrom 150 = .ok (.aload_n 0, 1) := by decide +kernel
theorem dX3_copyFrom_151 : decode cX3_copyFrom 151 = .ok (.getfield 64, 3) := by decide +kernel
theorem dX3_copyFrom_154 : decode cX3_copyFrom 154 = .ok (.invokestatic 67, 3) := by decide +kernel
theorem dX3_copyFrom_157 : decode cX3_copyFrom 157 = .ok (.aload_n 1, 1) := by decide +kernel
theorem dX3_copyFrom_158 : decode cX3_copyFrom 158 = .ok (.getfield 61, 3) := by decide +kernel
theorem dX3_copyFrom_161 : decode cX3_copyFrom 161 = .ok (.iconst 0, 1) := by decide +kernel
theorem dX3_copyFrom_162 : decode cX3_copyFrom 162 = .ok (.aload_n 0, 1) := by decide +kernel
theorem dX3_copyFrom_163 : decode cX3_copyFrom 163 = .ok (.getfield 61, 3) := by decide +kernel
theorem dX3_copyFrom_166 : decode cX3_copyFrom 166 = .ok (.iconst 0, 1) := by decide +kernel
theorem dX3_copyFrom_167 : decode cX3_copyFrom 167 = .ok (.bipush 8, 2) := by decide +kernel
theorem dX3_copyFrom_169 : decode cX3_copyFrom 169 = .ok (.invokestatic 71, 3) := by decide +kernel
theorem dX3_copyFrom_172 : decode cX3_copyFrom 172 = .ok (.return_, 1) := by decide +kernel
theorem dX3_addWord_0 : decode cX3_addWord 0 = .ok (.aload_n 0, 1) := by decide +kernel
theorem dX3_addWord_1 : decode cX3_addWord 1 = .ok (.getfield 33, 3) := by decide +kernel
theorem dX3_addWord_4 : decode cX3_addWord 4 = .ok (.bipush 8, 2) := by decide +kernel
theorem dX3_addWord_6 : decode cX3_addWord 6 = .ok (.if_icmp .ge 12, 3) := by decide +kernel
theorem dX3_addWord_9 : decode cX3_addWord 9 = .ok (.aload_n 0, 1) := by decide +kernel
theorem dX3_addWord_10 : decode cX3_addWord 10 = .ok (.getfield 30, 3) := by decide +kernel
theorem dX3_addWord_13 : decode cX3_addWord 13 = .ok (.bipush 20, 2) := by decide +kernel
theorem dX3_addWord_15 : decode cX3_addWord 15 = .ok (.if_icmp .lt 4, 3) := by decide +kernel
theorem dX3_addWord_18 : decode cX3_addWord 18 = .ok (.return_, 1) := by decide +kernel
theorem dX3_addWord_19 : decode cX3_addWord 19 = .ok (.aload_n 0, 1) := by decide +kernel
theorem dX3_addWord_20 : decode cX3_addWord 20 = .ok (.getfield 61, 3) := by decide +kernel
theorem dX3_addWord_23 : decode cX3_addWord 23 = .ok (.aload_n 0, 1) := by decide +kernel
theorem dX3_addWord_24 : decode cX3_addWord 24 = .ok (.getfield 33, 3) := by decide +kernel
theorem dX3_addWord_27 : decode cX3_addWord 27 = .ok (.aload_n 0, 1) := by decide +kernel
theorem dX3_addWord_28 : decode cX3_addWord 28 = .ok (.getfield 30, 3) := by decide +kernel
theorem dX3_addWord_31 : decode cX3_addWord 31 = .ok (.iastore, 1) := by decide +kernel
theorem dX3_addWord_32 : decode cX3_addWord 32 = .ok (.aload_n 0, 1) := by decide +kernel
theorem dX3_addWord_33 : decode cX3_addWord 33 = .ok (.getfield 64, 3) := by decide +kernel
theorem dX3_addWord_36 : decode cX3_addWord 36 = .ok (.aload_n 0, 1) := by decide +kernel
theorem dX3_addWord_37 : decode cX3_addWord 37 = .ok (.getfield 30, 3) := by decide +kernel
theorem dX3_addWord_40 : decode cX3_addWord 40 = .ok (.aload_n 0, 1) := by decide +kernel
theorem dX3_addWord_41 : decode cX3_addWord 41 = .ok (.getfield 33, 3) := by decide +kernel
theorem dX3_addWord_44 : decode cX3_addWord 44 = .ok (.iastore, 1) := by decide +kernel
theorem dX3_addWord_45 : decode cX3_addWord 45 = .ok (.aload_n 0, 1) := by decide +kernel
theorem dX3_addWord_46 : decode cX3_addWord 46 = .ok (.getfield 49, 3) := by decide +kernel
theorem dX3_addWord_49 : decode cX3_addWord 49 = .ok (.aload_n 0, 1) := by decide +kernel
theorem dX3_addWord_50 : decode cX3_addWord 50 = .ok (.getfield 30, 3) := by decide +kernel
theorem dX3_addWord_53 : decode cX3_addWord 53 = .ok (.iload_n 1, 1) := by decide +kernel
theorem dX3_addWord_54 : decode cX3_addWord 54 = .ok (.iastore, 1) := by decide +kernel
theorem dX3_addWord_55 : decode cX3_addWord 55 = .ok (.aload_n 0, 1) := by decide +kernel
theorem dX3_addWord_56 : decode cX3_addWord 56 = .ok (.dup, 1) := by decide +kernel
theorem dX3_addWord_57 : decode cX3_addWord 57 = .ok (.getfield 33, 3) := by decide +kernel
theorem dX3_addWord_60 : decode cX3_addWord 60 = .ok (.iconst 1, 1) := by decide +kernel
theorem dX3_addWord_61 : decode cX3_addWord 61 = .ok (.iadd, 1) := by decide +kernel
theorem dX3_addWord_62 : decode cX3_addWord 62 = .ok (.putfield 33, 3) := by decide +kernel
theorem dX3_addWord_65 : decode cX3_addWord 65 = .ok (.aload_n 0, 1) := by decide +kernel
theorem dX3_addWord_66 : decode cX3_addWord 66 = .ok (.iconst (-1), 1) := by decide +kernel
theorem dX3_addWord_67 : decode cX3_addWord 67 = .ok (.iload_n 2, 1) := by decide +kernel
theorem dX3_addWord_68 : decode cX3_addWord 68 = .ok (.invokevirtual 77, 3) := by decide +kernel
theorem dX3_addWord_71 : decode cX3_addWord 71 = .ok (.return_, 1) := by decide +kernel
theorem dX3_addStep_0 : decode cX3_addStep 0 = .ok (.aload_n 0, 1) := by decide +kernel
theorem dX3_addStep_1 : decode cX3_addStep 1 = .ok (.getfield 36, 3) := by decide +kernel
theorem dX3_addStep_4 : decode cX3_addStep 4 = .ok (.bipush 12, 2) := by decide +kernel
theorem dX3_addStep_6 : decode cX3_addStep 6 = .ok (.if_icmp .ge 12, 3) := by decide +kernel
theorem dX3_addStep_9 : decode cX3_addStep 9 = .ok (.aload_n 0, 1) := by decide +kernel
theorem dX3_addStep_10 : decode cX3_addStep 10 = .ok (.getfield 30, 3) := by decide +kernel
theorem dX3_addStep_13 : decode cX3_addStep 13 = .ok (.bipush 20, 2) := by decide +kernel
theorem dX3_addStep_15 : decode cX3_addStep 15 = .ok (.if_icmp .lt 4, 3) := by decide +kernel
theorem dX3_addStep_18 : decode cX3_addStep 18 = .ok (.return_, 1) := by decide +kernel
theorem dX3_addStep_19 : decode cX3_addStep 19 = .ok (.aload_n 0, 1) := by decide +kernel
theorem dX3_addStep_20 : decode cX3_addStep 20 = .ok (.getfield 36, 3) := by decide +kernel
theorem dX3_addStep_23 : decode cX3_addStep 23 = .ok (.ifCond .ne 11, 3) := by decide +kernel
theorem dX3_addStep_26 : decode cX3_addStep 26 = .ok (.aload_n 0, 1) := by decide +kernel
theorem dX3_addStep_27 : decode cX3_addStep 27 = .ok (.aload_n 0, 1) := by decide +kernel
theorem dX3_addStep_28 : decode cX3_addStep 28 = .ok (.getfield 30, 3) := by decide +kernel
theorem dX3_addStep_31 : decode cX3_addStep 31 = .ok (.putfield 39, 3) := by decide +kernel
theorem dX3_addStep_34 : decode cX3_addStep 34 = .ok (.aload_n 0, 1) := by decide +kernel
theorem dX3_addStep_35 : decode cX3_addStep 35 = .ok (.getfield 55, 3) := by decide +kernel
theorem dX3_addStep_38 : decode cX3_addStep 38 = .ok (.aload_n 0, 1) := by decide +kernel
theorem dX3_addStep_39 : decode cX3_addStep 39 = .ok (.getfield 30, 3) := by decide +kernel
theorem dX3_addStep_42 : decode cX3_addStep 42 = .ok (.iload_n 2, 1) := by decide +kernel
theorem dX3_addStep_43 : decode cX3_addStep 43 = .ok (.iastore, 1) := by decide +kernel
theorem dX3_addStep_44 : decode cX3_addStep 44 = .ok (.aload_n 0, 1) := by decide +kernel
theorem dX3_addStep_45 : decode cX3_addStep 45 = .ok (.dup, 1) := by decide +kernel
theorem dX3_addStep_46 : decode cX3_addStep 46 = .ok (.getfield 36, 3) := by decide +kernel
theorem dX3_addStep_49 : decode cX3_addStep 49 = .ok (.iconst 1, 1) := by decide +kernel
theorem dX3_addStep_50 : decode cX3_addStep 50 = .ok (.iadd, 1) := by decide +kernel
theorem dX3_addStep_51 : decode cX3_addStep 51 = .ok (.putfield 36, 3) := by decide +kernel
theorem dX3_addStep_54 : decode cX3_addStep 54 = .ok (.aload_n 0, 1) := by decide +kernel
theorem dX3_addStep_55 : decode cX3_addStep 55 = .ok (.iload_n 1, 1) := by decide +kernel
theorem dX3_addStep_56 : decode cX3_addStep 56 = .ok (.iload_n 3, 1) := by decide +kernel
theorem dX3_addStep_57 : decode cX3_addStep 57 = .ok (.invokevirtual 77, 3) := by decide +kernel
theorem dX3_addStep_60 : decode cX3_addStep 60 = .ok (.return_, 1) := by decide +kernel
theorem dX3_addItem_0 : decode cX3_addItem 0 = .ok (.aload_n 0, 1) := by decide +kernel
theorem dX3_addItem_1 : decode cX3_addItem 1 = .ok (.getfield 42, 3) := by decide +kernel
theorem dX3_addItem_4 : decode cX3_addItem 4 = .ok (.aload_n 0, 1) := by decide +kernel
theorem dX3_addItem_5 : decode cX3_addItem 5 = .ok (.getfield 30, 3) := by decide +kernel
theorem dX3_addItem_8 : decode cX3_addItem 8 = .ok (.iload_n 1, 1) := by decide +kernel
theorem dX3_addItem_9 : decode cX3_addItem 9 = .ok (.iastore, 1) := by decide +kernel
theorem dX3_addItem_10 : decode cX3_addItem 10 = .ok (.aload_n 0, 1) := by decide +kernel
theorem dX3_addItem_11 : decode cX3_addItem 11 = .ok (.getfield 46, 3) := by decide +kernel
theorem dX3_addItem_14 : decode cX3_addItem 14 = .ok (.aload_n 0, 1) := by decide +kernel
theorem dX3_addItem_15 : decode cX3_addItem 15 = .ok (.getfield 30, 3) := by decide +kernel
theorem dX3_addItem_18 : decode cX3_addItem 18 = .ok (.iload_n 2, 1) := by decide +kernel
theorem dX3_addItem_19 : decode cX3_addItem 19 = .ok (.iastore, 1) := by decide +kernel
theorem dX3_addItem_20 : decode cX3_addItem 20 = .ok (.aload_n 0, 1) := by decide +kernel
theorem dX3_addItem_21 : decode cX3_addItem 21 = .ok (.getfield 52, 3) := by decide +kernel
theorem dX3_addItem_24 : decode cX3_addItem 24 = .ok (.aload_n 0, 1) := by decide +kernel
theorem dX3_addItem_25 : decode cX3_addItem 25 = .ok (.getfield 30, 3) := by decide +kernel
theorem dX3_addItem_28 : decode cX3_addItem 28 = .ok (.iconst (-1), 1) := by decide +kernel
theorem dX3_addItem_29 : decode cX3_addItem 29 = .ok (.iastore, 1) := by decide +kernel
theorem dX3_addItem_30 : decode cX3_addItem 30 = .ok (.aload_n 0, 1) := by decide +kernel
theorem dX3_addItem_31 : decode cX3_addItem 31 = .ok (.getfield 58, 3) := by decide +kernel
theorem dX3_addItem_34 : decode cX3_addItem 34 = .ok (.aload_n 0, 1) := by decide +kernel
theorem dX3_addItem_35 : decode cX3_addItem 35 = .ok (.getfield 30, 3) := by decide +kernel
theorem dX3_addItem_38 : decode cX3_addItem 38 = .ok (.iconst (-1), 1) := by decide +kernel
theorem dX3_addItem_39 : decode cX3_addItem 39 = .ok (.iastore, 1) := by decide +kernel
theorem dX3_addItem_40 : decode cX3_addItem 40 = .ok (.aload_n 0, 1) := by decide +kernel
theorem dX3_addItem_41 : decode cX3_addItem 41 = .ok (.dup, 1) := by decide +kernel
theorem dX3_addItem_42 : decode cX3_addItem 42 = .ok (.getfield 30, 3) := by decide +kernel
theorem dX3_addItem_45 : decode cX3_addItem 45 = .ok (.iconst 1, 1) := by decide +kernel
theorem dX3_addItem_46 : decode cX3_addItem 46 = .ok (.iadd, 1) := by decide +kernel
theorem dX3_addItem_47 : decode cX3_addItem 47 = .ok (.putfield 30, 3) := by decide +kernel
theorem dX3_addItem_50 : decode cX3_addItem 50 = .ok (.return_, 1) := by decide +kernel
theorem dX3_isItem_0 : decode cX3_isItem 0 = .ok (.iload_n 1, 1) := by decide +kernel
theorem dX3_isItem_1 : decode cX3_isItem 1 = .ok (.ifCond .lt 15, 3) := by decide +kernel
theorem dX3_isItem_4 : decode cX3_isItem 4 = .ok (.iload_n 1, 1) := by decide +kernel
theorem dX3_isItem_5 : decode cX3_isItem 5 = .ok (.aload_n 0, 1) := by decide +kernel
theorem dX3_isItem_6 : decode cX3_isItem 6 = .ok (.getfield 30, 3) := by decide +kernel
theorem dX3_isItem_9 : decode cX3_isItem 9 = .ok (.if_icmp .ge 7, 3) := by decide +kernel
theorem dX3_isItem_12 : decode cX3_isItem 12 = .ok (.iconst 1, 1) := by decide +kernel
theorem dX3_isItem_13 : decode cX3_isItem 13 = .ok (.goto 4, 3) := by decide +kernel
theorem dX3_isItem_16 : decode cX3_isItem 16 = .ok (.iconst 0, 1) := by decide +kernel
theorem dX3_isItem_17 : decode cX3_isItem 17 = .ok (.ireturn, 1) := by decide +kernel
theorem dX3_isStep_0 : decode cX3_isStep 0 = .ok (.aload_n 0, 1) := by decide +kernel
theorem dX3_isStep_1 : decode cX3_isStep 1 = .ok (.iload_n 1, 1) := by decide +kernel
theorem dX3_isStep_2 : decode cX3_isStep 2 = .ok (.invokevirtual 81, 3) := by decide +kernel
theorem dX3_isStep_5 : decode cX3_isStep 5 = .ok (.ifCond .eq 17, 3) := by decide +kernel
theorem dX3_isStep_8 : decode cX3_isStep 8 = .ok (.aload_n 0, 1) := by decide +kernel
theorem dX3_isStep_9 : decode cX3_isStep 9 = .ok (.getfield 42, 3) := by decide +kernel
theorem dX3_isStep_12 : decode cX3_isStep 12 = .ok (.iload_n 1, 1) := by decide +kernel
theorem dX3_isStep_13 : decode cX3_isStep 13 = .ok (.iaload, 1) := by decide +kernel
theorem dX3_isStep_14 : decode cX3_isStep 14 = .ok (.iconst (-1), 1) := by decide +kernel
theorem dX3_isStep_15 : decode cX3_isStep 15 = .ok (.if_icmp .eq 7, 3) := by decide +kernel
theorem dX3_isStep_18 : decode cX3_isStep 18 = .ok (.iconst 1, 1) := by decide +kernel
theorem dX3_isStep_19 : decode cX3_isStep 19 = .ok (.goto 4, 3) := by decide +kernel
theorem dX3_isStep_22 : decode cX3_isStep 22 = .ok (.iconst 0, 1) := by decide +kernel
theorem dX3_isStep_23 : decode cX3_isStep 23 = .ok (.ireturn, 1) := by decide +kernel
theorem dX3_isWord_0 : decode cX3_isWord 0 = .ok (.aload_n 0, 1) := by decide +kernel
theorem dX3_isWord_1 : decode cX3_isWord 1 = .ok (.iload_n 1, 1) := by decide +kernel
theorem dX3_isWord_2 : decode cX3_isWord 2 = .ok (.invokevirtual 81, 3) := by decide +kernel
theorem dX3_isWord_5 : decode cX3_isWord 5 = .ok (.ifCond .eq 17, 3) := by decide +kernel
theorem dX3_isWord_8 : decode cX3_isWord 8 = .ok (.aload_n 0, 1) := by decide +kernel
theorem dX3_isWord_9 : decode cX3_isWord 9 = .ok (.getfield 42, 3) := by decide +kernel
theorem dX3_isWord_12 : decode cX3_isWord 12 = .ok (.iload_n 1, 1) := by decide +kernel
theorem dX3_isWord_13 : decode cX3_isWord 13 = .ok (.iaload, 1) := by decide +kernel
theorem dX3_isWord_14 : decode cX3_isWord 14 = .ok (.iconst (-1), 1) := by decide +kernel
theorem dX3_isWord_15 : decode cX3_isWord 15 = .ok (.if_icmp .ne 7, 3) := by decide +kernel
theorem dX3_isWord_18 : decode cX3_isWord 18 = .ok (.iconst 1, 1) := by decide +kernel
theorem dX3_isWord_19 : decode cX3_isWord 19 = .ok (.goto 4, 3) := by decide +kernel
theorem dX3_isWord_22 : decode cX3_isWord 22 = .ok (.iconst 0, 1) := by decide +kernel
theorem dX3_isWord_23 : decode cX3_isWord 23 = .ok (.ireturn, 1) := by decide +kernel
theorem dX3_isFixed_0 : decode cX3_isFixed 0 = .ok (.aload_n 0, 1) := by decide +kernel
theorem dX3_isFixed_1 : decode cX3_isFixed 1 = .ok (.iload_n 1, 1) := by decide +kernel
theorem dX3_isFixed_2 : decode cX3_isFixed 2 = .ok (.invokevirtual 81, 3) := by decide +kernel
theorem dX3_isFixed_5 : decode cX3_isFixed 5 = .ok (.ifCond .eq 17, 3) := by decide +kernel
theorem dX3_isFixed_8 : decode cX3_isFixed 8 = .ok (.aload_n 0, 1) := by decide +kernel
theorem dX3_isFixed_9 : decode cX3_isFixed 9 = .ok (.getfield 46, 3) := by decide +kernel
theorem dX3_isFixed_12 : decode cX3_isFixed 12 = .ok (.iload_n 1, 1) := by decide +kernel
theorem dX3_isFixed_13 : decode cX3_isFixed 13 = .ok (.iaload, 1) := by decide +kernel
theorem dX3_isFixed_14 : decode cX3_isFixed 14 = .ok (.iconst (-1), 1) := by decide +kernel
theorem dX3_isFixed_15 : decode cX3_isFixed 15 = .ok (.if_icmp .eq 7, 3) := by decide +kernel
theorem dX3_isFixed_18 : decode cX3_isFixed 18 = .ok (.iconst 1, 1) := by decide +kernel
theorem dX3_isFixed_19 : decode cX3_isFixed 19 = .ok (.goto 4, 3) := by decide +kernel
theorem dX3_isFixed_22 : decode cX3_isFixed 22 = .ok (.iconst 0, 1) := by decide +kernel
theorem dX3_isFixed_23 : decode cX3_isFixed 23 = .ok (.ireturn, 1) := by decide +kernel
theorem dX3_isAddress_0 : decode cX3_isAddress 0 = .ok (.iload_n 1, 1) := by decide +kernel
theorem dX3_isAddress_1 : decode cX3_isAddress 1 = .ok (.ifCond .lt 15, 3) := by decide +kernel
theorem dX3_isAddress_4 : decode cX3_isAddress 4 = .ok (.iload_n 1, 1) := by decide +kernel
theorem dX3_isAddress_5 : decode cX3_isAddress 5 = .ok (.aload_n 0, 1) := by decide +kernel
theorem dX3_isAddress_6 : decode cX3_isAddress 6 = .ok (.invokevirtual 85, 3) := by decide +kernel
theorem dX3_isAddress_9 : decode cX3_isAddress 9 = .ok (.if_icmp .ge 7, 3) := by decide +kernel
theorem dX3_isAddress_12 : decode cX3_isAddress 12 = .ok (.iconst 1, 1) := by decide +kernel
theorem dX3_isAddress_13 : decode cX3_isAddress 13 = .ok (.goto 4, 3) := by decide +kernel
theorem dX3_isAddress_16 : decode cX3_isAddress 16 = .ok (.iconst 0, 1) := by decide +kernel
theorem dX3_isAddress_17 : decode cX3_isAddress 17 = .ok (.ireturn, 1) := by decide +kernel
theorem dX3_isToldAddress_0 : decode cX3_isToldAddress 0 = .ok (.iconst 0, 1) := by decide +kernel
theorem dX3_isToldAddress_1 : decode cX3_isToldAddress 1 = .ok (.istore_n 2, 1) := by decide +kernel
theorem dX3_isToldAddress_2 : decode cX3_isToldAddress 2 = .ok (.iload_n 2, 1) := by decide +kernel
theorem dX3_isToldAddress_3 : decode cX3_isToldAddress 3 = .ok (.aload_n 0, 1) := by decide +kernel
theorem dX3_isToldAddress_4 : decode cX3_isToldAddress 4 = .ok (.getfield 30, 3) := by decide +kernel
theorem dX3_isToldAddress_7 : decode cX3_isToldAddress 7 = .ok (.if_icmp .ge 21, 3) := by decide +kernel
theorem dX3_isToldAddress_10 : decode cX3_isToldAddress 10 = .ok (.aload_n 0, 1) := by decide +kernel
theorem dX3_isToldAddress_11 : decode cX3_isToldAddress 11 = .ok (.getfield 46, 3) := by decide +kernel
theorem dX3_isToldAddress_14 : decode cX3_isToldAddress 14 = .ok (.iload_n 2, 1) := by decide +kernel
theorem dX3_isToldAddress_15 : decode cX3_isToldAddress 15 = .ok (.iaload, 1) := by decide +kernel
theorem dX3_isToldAddress_16 : decode cX3_isToldAddress 16 = .ok (.iload_n 1, 1) := by decide +kernel
theorem dX3_isToldAddress_17 : decode cX3_isToldAddress 17 = .ok (.if_icmp .ne 5, 3) := by decide +kernel
theorem dX3_isToldAddress_20 : decode cX3_isToldAddress 20 = .ok (.iconst 1, 1) := by decide +kernel
theorem dX3_isToldAddress_21 : decode cX3_isToldAddress 21 = .ok (.ireturn, 1) := by decide +kernel
theorem dX3_isToldAddress_22 : decode cX3_isToldAddress 22 = .ok (.iinc 2 1, 3) := by decide +kernel
theorem dX3_isToldAddress_25 : decode cX3_isToldAddress 25 = .ok (.goto (-23), 3) := by decide +kernel
theorem dX3_isToldAddress_28 : decode cX3_isToldAddress 28 = .ok (.iconst 0, 1) := by decide +kernel
theorem dX3_isToldAddress_29 : decode cX3_isToldAddress 29 = .ok (.ireturn, 1) := by decide +kernel
theorem dX3_addresses_0 : decode cX3_addresses 0 = .ok (.aload_n 0, 1) := by decide +kernel
theorem dX3_addresses_1 : decode cX3_addresses 1 = .ok (.getfield 9, 3) := by decide +kernel
theorem dX3_addresses_4 : decode cX3_addresses 4 = .ok (.aload_n 0, 1) := by decide +kernel
theorem dX3_addresses_5 : decode cX3_addresses 5 = .ok (.getfield 15, 3) := by decide +kernel
theorem dX3_addresses_8 : decode cX3_addresses 8 = .ok (.imul, 1) := by decide +kernel
theorem dX3_addresses_9 : decode cX3_addresses 9 = .ok (.ireturn, 1) := by decide +kernel
theorem dX3_loose_0 : decode cX3_loose 0 = .ok (.iconst 0, 1) := by decide +kernel
theorem dX3_loose_1 : decode cX3_loose 1 = .ok (.istore_n 1, 1) := by decide +kernel
theorem dX3_loose_2 : decode cX3_loose 2 = .ok (.iconst 0, 1) := by decide +kernel
theorem dX3_loose_3 : decode cX3_loose 3 = .ok (.istore_n 2, 1) := by decide +kernel
theorem dX3_loose_4 : decode cX3_loose 4 = .ok (.iload_n 2, 1) := by decide +kernel
theorem dX3_loose_5 : decode cX3_loose 5 = .ok (.aload_n 0, 1) := by decide +kernel
theorem dX3_loose_6 : decode cX3_loose 6 = .ok (.getfield 30, 3) := by decide +kernel
theorem dX3_loose_9 : decode cX3_loose 9 = .ok (.if_icmp .ge 22, 3) := by decide +kernel
theorem dX3_loose_12 : decode cX3_loose 12 = .ok (.aload_n 0, 1) := by decide +kernel
theorem dX3_loose_13 : decode cX3_loose 13 = .ok (.getfield 46, 3) := by decide +kernel
theorem dX3_loose_16 : decode cX3_loose 16 = .ok (.iload_n 2, 1) := by decide +kernel
theorem dX3_loose_17 : decode cX3_loose 17 = .ok (.iaload, 1) := by decide +kernel
theorem dX3_loose_18 : decode cX3_loose 18 = .ok (.iconst (-1), 1) := by decide +kernel
theorem dX3_loose_19 : decode cX3_loose 19 = .ok (.if_icmp .ne 6, 3) := by decide +kernel
theorem dX3_loose_22 : decode cX3_loose 22 = .ok (.iinc 1 1, 3) := by decide +kernel
theorem dX3_loose_25 : decode cX3_loose 25 = .ok (.iinc 2 1, 3) := by decide +kernel
theorem dX3_loose_28 : decode cX3_loose 28 = .ok (.goto (-24), 3) := by decide +kernel
theorem dX3_loose_31 : decode cX3_loose 31 = .ok (.iload_n 1, 1) := by decide +kernel
theorem dX3_loose_32 : decode cX3_loose 32 = .ok (.ireturn, 1) := by decide +kernel
theorem dX3_wordFurther_0 : decode cX3_wordFurther 0 = .ok (.aload_n 0, 1) := by decide +kernel
theorem dX3_wordFurther_1 : decode cX3_wordFurther 1 = .ok (.iload_n 1, 1) := by decide +kernel
theorem dX3_wordFurther_2 : decode cX3_wordFurther 2 = .ok (.invokevirtual 89, 3) := by decide +kernel
theorem dX3_wordFurther_5 : decode cX3_wordFurther 5 = .ok (.ifCond .eq 15, 3) := by decide +kernel
theorem dX3_wordFurther_8 : decode cX3_wordFurther 8 = .ok (.aload_n 0, 1) := by decide +kernel
theorem dX3_wordFurther_9 : decode cX3_wordFurther 9 = .ok (.getfield 33, 3) := by decide +kernel
theorem dX3_wordFurther_12 : decode cX3_wordFurther 12 = .ok (.iconst 1, 1) := by decide +kernel
theorem dX3_wordFurther_13 : decode cX3_wordFurther 13 = .ok (.if_icmp .lt 7, 3) := by decide +kernel
theorem dX3_wordFurther_16 : decode cX3_wordFurther 16 = .ok (.iload_n 2, 1) := by decide +kernel
theorem dX3_wordFurther_17 : decode cX3_wordFurther 17 = .ok (.ifCond .ge 5, 3) := by decide +kernel
theorem dX3_wordFurther_20 : decode cX3_wordFurther 20 = .ok (.iload_n 1, 1) := by decide +kernel
theorem dX3_wordFurther_21 : decode cX3_wordFurther 21 = .ok (.ireturn, 1) := by decide +kernel
theorem dX3_wordFurther_22 : decode cX3_wordFurther 22 = .ok (.aload_n 0, 1) := by decide +kernel
theorem dX3_wordFurther_23 : decode cX3_wordFurther 23 = .ok (.getfield 64, 3) := by decide +kernel
theorem dX3_wordFurther_26 : decode cX3_wordFurther 26 = .ok (.iload_n 1, 1) := by decide +kernel
theorem dX3_wordFurther_27 : decode cX3_wordFurther 27 = .ok (.iaload, 1) := by decide +kernel
theorem dX3_wordFurther_28 : decode cX3_wordFurther 28 = .ok (.iload_n 2, 1) := by decide +kernel
theorem dX3_wordFurther_29 : decode cX3_wordFurther 29 = .ok (.iadd, 1) := by decide +kernel
theorem dX3_wordFurther_30 : decode cX3_wordFurther 30 = .ok (.aload_n 0, 1) := by decide +kernel
theorem dX3_wordFurther_31 : decode cX3_wordFurther 31 = .ok (.getfield 33, 3) := by decide +kernel
theorem dX3_wordFurther_34 : decode cX3_wordFurther 34 = .ok (.irem, 1) := by decide +kernel
theorem dX3_wordFurther_35 : decode cX3_wordFurther 35 = .ok (.istore_n 3, 1) := by decide +kernel
theorem dX3_wordFurther_36 : decode cX3_wordFurther 36 = .ok (.aload_n 0, 1) := by decide +kernel
theorem dX3_wordFurther_37 : decode cX3_wordFurther 37 = .ok (.getfield 61, 3) := by decide +kernel
theorem dX3_wordFurther_40 : decode cX3_wordFurther 40 = .ok (.iload_n 3, 1) := by decide +kernel
theorem dX3_wordFurther_41 : decode cX3_wordFurther 41 = .ok (.iaload, 1) := by decide +kernel
theorem dX3_wordFurther_42 : decode cX3_wordFurther 42 = .ok (.ireturn, 1) := by decide +kernel
theorem dX4_init_0 : decode cX4_init 0 = .ok (.aload_n 0, 1) := by decide +kernel
theorem dX4_init_1 : decode cX4_init 1 = .ok (.invokespecial 3, 3) := by decide +kernel
theorem dX4_init_4 : decode cX4_init 4 = .ok (.aload_n 0, 1) := by decide +kernel
theorem dX4_init_5 : decode cX4_init 5 = .ok (.bipush 20, 2) := by decide +kernel
theorem dX4_init_7 : decode cX4_init 7 = .ok (.newarray .int, 2) := by decide +kernel
theorem dX4_init_9 : decode cX4_init 9 = .ok (.putfield 9, 3) := by decide +kernel
theorem dX4_init_12 : decode cX4_init 12 = .ok (.aload_n 0, 1) := by decide +kernel
theorem dX4_init_13 : decode cX4_init 13 = .ok (.bipush 20, 2) := by decide +kernel
theorem dX4_init_15 : decode cX4_init 15 = .ok (.newarray .int, 2) := by decide +kernel
theorem dX4_init_17 : decode cX4_init 17 = .ok (.putfield 15, 3) := by decide +kernel
theorem dX4_init_20 : decode cX4_init 20 = .ok (.aload_n 0, 1) := by decide +kernel
theorem dX4_init_21 : decode cX4_init 21 = .ok (.bipush 20, 2) := by decide +kernel
theorem dX4_init_23 : decode cX4_init 23 = .ok (.newarray .int, 2) := by decide +kernel
theorem dX4_init_25 : decode cX4_init 25 = .ok (.putfield 18, 3) := by decide +kernel
theorem dX4_init_28 : decode cX4_init 28 = .ok (.aload_n 0, 1) := by decide +kernel
theorem dX4_init_29 : decode cX4_init 29 = .ok (.bipush 20, 2) := by decide +kernel
theorem dX4_init_31 : decode cX4_init 31 = .ok (.newarray .int, 2) := by decide +kernel
theorem dX4_init_33 : decode cX4_init 33 = .ok (.putfield 21, 3) := by decide +kernel
theorem dX4_init_36 : decode cX4_init 36 = .ok (.aload_n 0, 1) := by decide +kernel
theorem dX4_init_37 : decode cX4_init 37 = .ok (.bipush 20, 2) := by decide +kernel
theorem dX4_init_39 : decode cX4_init 39 = .ok (.newarray .int, 2) := by decide +kernel
theorem dX4_init_41 : decode cX4_init 41 = .ok (.putfield 24, 3) := by decide +kernel
theorem dX4_init_44 : decode cX4_init 44 = .ok (.aload_n 0, 1) := by decide +kernel
theorem dX4_init_45 : decode cX4_init 45 = .ok (.iconst 0, 1) := by decide +kernel
theorem dX4_init_46 : decode cX4_init 46 = .ok (.putfield 27, 3) := by decide +kernel
theorem dX4_init_49 : decode cX4_init 49 = .ok (.aload_n 0, 1) := by decide +kernel
theorem dX4_init_50 : decode cX4_init 50 = .ok (.iconst (-1), 1) := by decide +kernel
theorem dX4_init_51 : decode cX4_init 51 = .ok (.putfield 31, 3) := by decide +kernel
theorem dX4_init_54 : decode cX4_init 54 = .ok (.aload_n 0, 1) := by decide +kernel
theorem dX4_init_55 : decode cX4_init 55 = .ok (.new 34, 3) := by decide +kernel
theorem dX4_init_58 : decode cX4_init 58 = .ok (.dup, 1) := by decide +kernel
theorem dX4_init_59 : decode cX4_init 59 = .ok (.aload_n 1, 1) := by decide +kernel
theorem dX4_init_60 : decode cX4_init 60 = .ok (.invokespecial 36, 3) := by decide +kernel
theorem dX4_init_63 : decode cX4_init 63 = .ok (.putfield 39, 3) := by decide +kernel
theorem dX4_init_66 : decode cX4_init 66 = .ok (.return_, 1) := by decide +kernel
theorem dX4_readText_0 : decode cX4_readText 0 = .ok (.aload_n 0, 1) := by decide +kernel
theorem dX4_readText_1 : decode cX4_readText 1 = .ok (.iconst 0, 1) := by decide +kernel
theorem dX4_readText_2 : decode cX4_readText 2 = .ok (.putfield 27, 3) := by decide +kernel
theorem dX4_readText_5 : decode cX4_readText 5 = .ok (.aload_n 0, 1) := by decide +kernel
theorem dX4_readText_6 : decode cX4_readText 6 = .ok (.iconst (-1), 1) := by decide +kernel
theorem dX4_readText_7 : decode cX4_readText 7 = .ok (.putfield 31, 3) := by decide +kernel
theorem dX4_readText_10 : decode cX4_readText 10 = .ok (.aload_n 1, 1) := by decide +kernel
theorem dX4_readText_11 : decode cX4_readText 11 = .ok (.invokevirtual 43, 3) := by decide +kernel
theorem dX4_readText_14 : decode cX4_readText 14 = .ok (.aload_n 0, 1) := by decide +kernel
theorem dX4_readText_15 : decode cX4_readText 15 = .ok (.getfield 39, 3) := by decide +kernel
theorem dX4_readText_18 : decode cX4_readText 18 = .ok (.invokevirtual 48, 3) := by decide +kernel
theorem dX4_readText_21 : decode cX4_readText 21 = .ok (.iconst 0, 1) := by decide +kernel
theorem dX4_readText_22 : decode cX4_readText 22 = .ok (.istore_n 2, 1) := by decide +kernel
theorem dX4_readText_23 : decode cX4_readText 23 = .ok (.iload_n 2, 1) := by decide +kernel
theorem dX4_readText_24 : decode cX4_readText 24 = .ok (.bipush 21, 2) := by decide +kernel
theorem dX4_readText_26 : decode cX4_readText 26 = .ok (.if_icmp .gt 67, 3) := by decide +kernel
theorem dX4_readText_29 : decode cX4_readText 29 = .ok (.aload_n 0, 1) := by decide +kernel
theorem dX4_readText_30 : decode cX4_readText 30 = .ok (.invokevirtual 51, 3) := by decide +kernel
theorem dX4_readText_33 : decode cX4_readText 33 = .ok (.ifCond .eq 60, 3) := by decide +kernel
theorem dX4_readText_36 : decode cX4_readText 36 = .ok (.iload_n 2, 1) := by decide +kernel
theorem dX4_readText_37 : decode cX4_readText 37 = .ok (.ifCond .ne 11, 3) := by decide +kernel
theorem dX4_readText_40 : decode cX4_readText 40 = .ok (.aload_n 0, 1) := by decide +kernel
theorem dX4_readText_41 : decode cX4_readText 41 = .ok (.aload_n 1, 1) := by decide +kernel
theorem dX4_readText_42 : decode cX4_readText 42 = .ok (.invokevirtual 55, 3) := by decide +kernel
theorem dX4_readText_45 : decode cX4_readText 45 = .ok (.goto 28, 3) := by decide +kernel
theorem dX4_readText_48 : decode cX4_readText 48 = .ok (.aload_n 0, 1) := by decide +kernel
theorem dX4_readText_49 : decode cX4_readText 49 = .ok (.getfield 39, 3) := by decide +kernel
theorem dX4_readText_52 : decode cX4_readText 52 = .ok (.ldc 59, 2) := by decide +kernel
theorem dX4_readText_54 : decode cX4_readText 54 = .ok (.invokevirtual 61, 3) := by decide +kernel
theorem dX4_readText_57 : decode cX4_readText 57 = .ok (.ifCond .eq 11, 3) := by decide +kernel
theorem dX4_readText_60 : decode cX4_readText 60 = .ok (.aload_n 0, 1) := by decide +kernel
theorem dX4_readText_61 : decode cX4_readText 61 = .ok (.aload_n 1, 1) := by decide +kernel
theorem dX4_readText_62 : decode cX4_readText 62 = .ok (.invokevirtual 65, 3) := by decide +kernel
theorem dX4_readText_65 : decode cX4_readText 65 = .ok (.goto 8, 3) := by decide +kernel
theorem dX4_readText_68 : decode cX4_readText 68 = .ok (.aload_n 0, 1) := by decide +kernel
theorem dX4_readText_69 : decode cX4_readText 69 = .ok (.aload_n 1, 1) := by decide +kernel
theorem dX4_readText_70 : decode cX4_readText 70 = .ok (.invokevirtual 68, 3) := by decide +kernel
theorem dX4_readText_73 : decode cX4_readText 73 = .ok (.aload_n 0, 1) := by decide +kernel
theorem dX4_readText_74 : decode cX4_readText 74 = .ok (.invokevirtual 71, 3) := by decide +kernel
theorem dX4_readText_77 : decode cX4_readText 77 = .ok (.aload_n 1, 1) := by decide +kernel
theorem dX4_readText_78 : decode cX4_readText 78 = .ok (.dup, 1) := by decide +kernel
theorem dX4_readText_79 : decode cX4_readText 79 = .ok (.getfield 74, 3) := by decide +kernel
theorem dX4_readText_82 : decode cX4_readText 82 = .ok (.iconst 1, 1) := by decide +kernel
theorem dX4_readText_83 : decode cX4_readText 83 = .ok (.iadd, 1) := by decide +kernel
theorem dX4_readText_84 : decode cX4_readText 84 = .ok (.putfield 74, 3) := by decide +kernel
theorem dX4_readText_87 : decode cX4_readText 87 = .ok (.iinc 2 1, 3) := by decide +kernel
theorem dX4_readText_90 : decode cX4_readText 90 = .ok (.goto (-67), 3) := by decide +kernel
theorem dX4_readText_93 : decode cX4_readText 93 = .ok (.iconst 0, 1) := by decide +kernel
theorem dX4_readText_94 : decode cX4_readText 94 = .ok (.istore_n 2, 1) := by decide +kernel
theorem dX4_readText_95 : decode cX4_readText 95 = .ok (.iload_n 2, 1) := by decide +kernel
theorem dX4_readText_96 : decode cX4_readText 96 = .ok (.aload_n 1, 1) := by decide +kernel
theorem dX4_readText_97 : decode cX4_readText 97 = .ok (.getfield 77, 3) := by decide +kernel
theorem dX4_readText_100 : decode cX4_readText 100 = .ok (.if_icmp .ge 22, 3) := by decide +kernel
theorem dX4_readText_103 : decode cX4_readText 103 = .ok (.aload_n 0, 1) := by decide +kernel
theorem dX4_readText_104 : decode cX4_readText 104 = .ok (.getfield 27, 3) := by decide +kernel
theorem dX4_readText_107 : decode cX4_readText 107 = .ok (.ifCond .ne 15, 3) := by decide +kernel
theorem dX4_readText_110 : decode cX4_readText 110 = .ok (.aload_n 0, 1) := by decide +kernel
theorem dX4_readText_111 : decode cX4_readText 111 = .ok (.aload_n 1, 1) := by decide +kernel
theorem dX4_readText_112 : decode cX4_readText 112 = .ok (.iload_n 2, 1) := by decide +kernel
theorem dX4_readText_113 : decode cX4_readText 113 = .ok (.invokevirtual 80, 3) := by decide +kernel
theorem dX4_readText_116 : decode cX4_readText 116 = .ok (.iinc 2 1, 3) := by decide +kernel
theorem dX4_readText_119 : decode cX4_readText 119 = .ok (.goto (-24), 3) := by decide +kernel
theorem dX4_readText_122 : decode cX4_readText 122 = .ok (.return_, 1) := by decide +kernel
theorem dX4_goesOn_0 : decode cX4_goesOn 0 = .ok (.aload_n 0, 1) := by decide +kernel
theorem dX4_goesOn_1 : decode cX4_goesOn 1 = .ok (.getfield 27, 3) := by decide +kernel
theorem dX4_goesOn_4 : decode cX4_goesOn 4 = .ok (.ifCond .ne 17, 3) := by decide +kernel
theorem dX4_goesOn_7 : decode cX4_goesOn 7 = .ok (.aload_n 0, 1) := by decide +kernel
theorem dX4_goesOn_8 : decode cX4_goesOn 8 = .ok (.getfield 39, 3) := by decide +kernel
theorem dX4_goesOn_11 : decode cX4_goesOn 11 = .ok (.getfield 84, 3) := by decide +kernel
theorem dX4_goesOn_14 : decode cX4_goesOn 14 = .ok (.ifCond .eq 7, 3) := by decide +kernel
theorem dX4_goesOn_17 : decode cX4_goesOn 17 = .ok (.iconst 1, 1) := by decide +kernel
theorem dX4_goesOn_18 : decode cX4_goesOn 18 = .ok (.goto 4, 3) := by decide +kernel
theorem dX4_goesOn_21 : decode cX4_goesOn 21 = .ok (.iconst 0, 1) := by decide +kernel
theorem dX4_goesOn_22 : decode cX4_goesOn 22 = .ok (.ireturn, 1) := by decide +kernel
theorem dX4_readDrum_0 : decode cX4_readDrum 0 = .ok (.aload_n 0, 1) := by decide +kernel
theorem dX4_readDrum_1 : decode cX4_readDrum 1 = .ok (.ldc 87, 2) := by decide +kernel
theorem dX4_readDrum_3 : decode cX4_readDrum 3 = .ok (.invokevirtual 89, 3) := by decide +kernel
theorem dX4_readDrum_6 : decode cX4_readDrum 6 = .ok (.aload_n 1, 1) := by decide +kernel
theorem dX4_readDrum_7 : decode cX4_readDrum 7 = .ok (.aload_n 0, 1) := by decide +kernel
theorem dX4_readDrum_8 : decode cX4_readDrum 8 = .ok (.ldc 93, 2) := by decide +kernel
theorem dX4_readDrum_10 : decode cX4_readDrum 10 = .ok (.iconst 1, 1) := by decide +kernel
theorem dX4_readDrum_11 : decode cX4_readDrum 11 = .ok (.iconst 4, 1) := by decide +kernel
theorem dX4_readDrum_12 : decode cX4_readDrum 12 = .ok (.invokevirtual 95, 3) := by decide +kernel
theorem dX4_readDrum_15 : decode cX4_readDrum 15 = .ok (.putfield 99, 3) := by decide +kernel
theorem dX4_readDrum_18 : decode cX4_readDrum 18 = .ok (.aload_n 1, 1) := by decide +kernel
theorem dX4_readDrum_19 : decode cX4_readDrum 19 = .ok (.aload_n 0, 1) := by decide +kernel
theorem dX4_readDrum_20 : decode cX4_readDrum 20 = .ok (.ldc 101, 2) := by decide +kernel
theorem dX4_readDrum_22 : decode cX4_readDrum 22 = .ok (.iconst 2, 1) := by decide +kernel
theorem dX4_readDrum_23 : decode cX4_readDrum 23 = .ok (.bipush 12, 2) := by decide +kernel
theorem dX4_readDrum_25 : decode cX4_readDrum 25 = .ok (.invokevirtual 95, 3) := by decide +kernel
theorem dX4_readDrum_28 : decode cX4_readDrum 28 = .ok (.putfield 103, 3) := by decide +kernel
theorem dX4_readDrum_31 : decode cX4_readDrum 31 = .ok (.aload_n 1, 1) := by decide +kernel
theorem dX4_readDrum_32 : decode cX4_readDrum 32 = .ok (.aload_n 0, 1) := by decide +kernel
theorem dX4_readDrum_33 : decode cX4_readDrum 33 = .ok (.ldc 105, 2) := by decide +kernel
theorem dX4_readDrum_35 : decode cX4_readDrum 35 = .ok (.iconst 0, 1) := by decide +kernel
theorem dX4_readDrum_36 : decode cX4_readDrum 36 = .ok (.bipush 9, 2) := by decide +kernel
theorem dX4_readDrum_38 : decode cX4_readDrum 38 = .ok (.invokevirtual 95, 3) := by decide +kernel
theorem dX4_readDrum_41 : decode cX4_readDrum 41 = .ok (.putfield 107, 3) := by decide +kernel
theorem dX4_readDrum_44 : decode cX4_readDrum 44 = .ok (.aload_n 1, 1) := by decide +kernel
theorem dX4_readDrum_45 : decode cX4_readDrum 45 = .ok (.aload_n 0, 1) := by decide +kernel
theorem dX4_readDrum_46 : decode cX4_readDrum 46 = .ok (.aload_n 1, 1) := by decide +kernel
theorem dX4_readDrum_47 : decode cX4_readDrum 47 = .ok (.getfield 103, 3) := by decide +kernel
theorem dX4_readDrum_50 : decode cX4_readDrum 50 = .ok (.invokevirtual 109, 3) := by decide +kernel
theorem dX4_readDrum_53 : decode cX4_readDrum 53 = .ok (.putfield 113, 3) := by decide +kernel
theorem dX4_readDrum_56 : decode cX4_readDrum 56 = .ok (.aload_n 1, 1) := by decide +kernel
theorem dX4_readDrum_57 : decode cX4_readDrum 57 = .ok (.aload_n 0, 1) := by decide +kernel
theorem dX4_readDrum_58 : decode cX4_readDrum 58 = .ok (.ldc 116, 2) := by decide +kernel
theorem dX4_readDrum_60 : decode cX4_readDrum 60 = .ok (.iconst 0, 1) := by decide +kernel
theorem dX4_readDrum_61 : decode cX4_readDrum 61 = .ok (.bipush 9, 2) := by decide +kernel
theorem dX4_readDrum_63 : decode cX4_readDrum 63 = .ok (.invokevirtual 95, 3) := by decide +kernel
theorem dX4_readDrum_66 : decode cX4_readDrum 66 = .ok (.putfield 118, 3) := by decide +kernel
theorem dX4_readDrum_69 : decode cX4_readDrum 69 = .ok (.return_, 1) := by decide +kernel
theorem dX4_readWord_0 : decode cX4_readWord 0 = .ok (.aload_n 0, 1) := by decide +kernel
theorem dX4_readWord_1 : decode cX4_readWord 1 = .ok (.ldc 59, 2) := by decide +kernel
theorem dX4_readWord_3 : decode cX4_readWord 3 = .ok (.aload_n 1, 1) := by decide +kernel
theorem dX4_readWord_4 : decode cX4_readWord 4 = .ok (.getfield 120, 3) := by decide +kernel
theorem dX4_readWord_7 : decode cX4_readWord 7 = .ok (.bipush 8, 2) := by decide +kernel
theorem dX4_readWord_9 : decode cX4_readWord 9 = .ok (.if_icmp .ge 18, 3) := by decide +kernel
theorem dX4_readWord_12 : decode cX4_readWord 12 = .ok (.aload_n 1, 1) := by decide +kernel
theorem dX4_readWord_13 : decode cX4_readWord 13 = .ok (.getfield 77, 3) := by decide +kernel
theorem dX4_readWord_16 : decode cX4_readWord 16 = .ok (.aload_n 1, 1) := by decide +kernel
theorem dX4_readWord_17 : decode cX4_readWord 17 = .ok (.invokevirtual 123, 3) := by decide +kernel
theorem dX4_readWord_20 : decode cX4_readWord 20 = .ok (.if_icmp .ge 7, 3) := by decide +kernel
theorem dX4_readWord_23 : decode cX4_readWord 23 = .ok (.iconst 1, 1) := by decide +kernel
theorem dX4_readWord_24 : decode cX4_readWord 24 = .ok (.goto 4, 3) := by decide +kernel
theorem dX4_readWord_27 : decode cX4_readWord 27 = .ok (.iconst 0, 1) := by decide +kernel
theorem dX4_readWord_28 : decode cX4_readWord 28 = .ok (.invokevirtual 127, 3) := by decide +kernel
theorem dX4_readWord_31 : decode cX4_readWord 31 = .ok (.aload_n 0, 1) := by decide +kernel
theorem dX4_readWord_32 : decode cX4_readWord 32 = .ok (.aload_n 1, 1) := by decide +kernel
theorem dX4_readWord_33 : decode cX4_readWord 33 = .ok (.getfield 77, 3) := by decide +kernel
theorem dX4_readWord_36 : decode cX4_readWord 36 = .ok (.invokevirtual 131, 3) := by decide +kernel
theorem dX4_readWord_39 : decode cX4_readWord 39 = .ok (.aload_n 0, 1) := by decide +kernel
theorem dX4_readWord_40 : decode cX4_readWord 40 = .ok (.invokevirtual 135, 3) := by decide +kernel
theorem dX4_readWord_43 : decode cX4_readWord 43 = .ok (.istore_n 2, 1) := by decide +kernel
theorem dX4_readWord_44 : decode cX4_readWord 44 = .ok (.aload_n 0, 1) := by decide +kernel
theorem dX4_readWord_45 : decode cX4_readWord 45 = .ok (.iconst 0, 1) := by decide +kernel
theorem dX4_readWord_46 : decode cX4_readWord 46 = .ok (.sipush 9999, 3) := by decide +kernel
theorem dX4_readWord_49 : decode cX4_readWord 49 = .ok (.invokevirtual 138, 3) := by decide +kernel
theorem dX4_readWord_52 : decode cX4_readWord 52 = .ok (.istore_n 3, 1) := by decide +kernel
theorem dX4_readWord_53 : decode cX4_readWord 53 = .ok (.aload_n 0, 1) := by decide +kernel
theorem dX4_readWord_54 : decode cX4_readWord 54 = .ok (.aload_n 1, 1) := by decide +kernel
theorem dX4_readWord_55 : decode cX4_readWord 55 = .ok (.invokevirtual 142, 3) := by decide +kernel
theorem dX4_readWord_58 : decode cX4_readWord 58 = .ok (.istore 4, 2) := by decide +kernel
theorem dX4_readWord_60 : decode cX4_readWord 60 = .ok (.aload_n 0, 1) := by decide +kernel
theorem dX4_readWord_61 : decode cX4_readWord 61 = .ok (.getfield 27, 3) := by decide +kernel
theorem dX4_readWord_64 : decode cX4_readWord 64 = .ok (.ifCond .ne 19, 3) := by decide +kernel
theorem dX4_readWord_67 : decode cX4_readWord 67 = .ok (.aload_n 1, 1) := by decide +kernel
theorem dX4_readWord_68 : decode cX4_readWord 68 = .ok (.iload_n 2, 1) := by decide +kernel
theorem dX4_readWord_69 : decode cX4_readWord 69 = .ok (.ifCond .eq 8, 3) := by decide +kernel
theorem dX4_readWord_72 : decode cX4_readWord 72 = .ok (.iload_n 3, 1) := by decide +kernel
theorem dX4_readWord_73 : decode cX4_readWord 73 = .ok (.ineg, 1) := by decide +kernel
theorem dX4_readWord_74 : decode cX4_readWord 74 = .ok (.goto 4, 3) := by decide +kernel
theorem dX4_readWord_77 : decode cX4_readWord 77 = .ok (.iload_n 3, 1) := by decide +kernel
theorem dX4_readWord_78 : decode cX4_readWord 78 = .ok (.iload 4, 2) := by decide +kernel
theorem dX4_readWord_80 : decode cX4_readWord 80 = .ok (.invokevirtual 146, 3) := by decide +kernel
theorem dX4_readWord_83 : decode cX4_readWord 83 = .ok (.return_, 1) := by decide +kernel
theorem dX4_readStep_0 : decode cX4_readStep 0 = .ok (.aload_n 0, 1) := by decide +kernel
theorem dX4_readStep_1 : decode cX4_readStep 1 = .ok (.ldc 150, 2) := by decide +kernel
theorem dX4_readStep_3 : decode cX4_readStep 3 = .ok (.aload_n 1, 1) := by decide +kernel
theorem dX4_readStep_4 : decode cX4_readStep 4 = .ok (.getfield 152, 3) := by decide +kernel
theorem dX4_readStep_7 : decode cX4_readStep 7 = .ok (.bipush 12, 2) := by decide +kernel
theorem dX4_readStep_9 : decode cX4_readStep 9 = .ok (.if_icmp .ge 18, 3) := by decide +kernel
theorem dX4_readStep_12 : decode cX4_readStep 12 = .ok (.aload_n 1, 1) := by decide +kernel
theorem dX4_readStep_13 : decode cX4_readStep 13 = .ok (.getfield 77, 3) := by decide +kernel
theorem dX4_readStep_16 : decode cX4_readStep 16 = .ok (.aload_n 1, 1) := by decide +kernel
theorem dX4_readStep_17 : decode cX4_readStep 17 = .ok (.invokevirtual 123, 3) := by decide +kernel
theorem dX4_readStep_20 : decode cX4_readStep 20 = .ok (.if_icmp .ge 7, 3) := by decide +kernel
theorem dX4_readStep_23 : decode cX4_readStep 23 = .ok (.iconst 1, 1) := by decide +kernel
theorem dX4_readStep_24 : decode cX4_readStep 24 = .ok (.goto 4, 3) := by decide +kernel
theorem dX4_readStep_27 : decode cX4_readStep 27 = .ok (.iconst 0, 1) := by decide +kernel
theorem dX4_readStep_28 : decode cX4_readStep 28 = .ok (.invokevirtual 127, 3) := by decide +kernel
theorem dX4_readStep_31 : decode cX4_readStep 31 = .ok (.aload_n 0, 1) := by decide +kernel
theorem dX4_readStep_32 : decode cX4_readStep 32 = .ok (.aload_n 1, 1) := by decide +kernel
theorem dX4_readStep_33 : decode cX4_readStep 33 = .ok (.getfield 77, 3) := by decide +kernel
theorem dX4_readStep_36 : decode cX4_readStep 36 = .ok (.invokevirtual 131, 3) := by decide +kernel
theorem dX4_readStep_39 : decode cX4_readStep 39 = .ok (.aload_n 0, 1) := by decide +kernel
theorem dX4_readStep_40 : decode cX4_readStep 40 = .ok (.invokevirtual 155, 3) := by decide +kernel
theorem dX4_readStep_43 : decode cX4_readStep 43 = .ok (.istore_n 2, 1) := by decide +kernel
theorem dX4_readStep_44 : decode cX4_readStep 44 = .ok (.iconst 0, 1) := by decide +kernel
theorem dX4_readStep_45 : decode cX4_readStep 45 = .ok (.istore_n 3, 1) := by decide +kernel
theorem dX4_readStep_46 : decode cX4_readStep 46 = .ok (.iload_n 2, 1) := by decide +kernel
theorem dX4_readStep_47 : decode cX4_readStep 47 = .ok (.bipush 7, 2) := by decide +kernel
theorem dX4_readStep_49 : decode cX4_readStep 49 = .ok (.if_icmp .eq 53, 3) := by decide +kernel
theorem dX4_readStep_52 : decode cX4_readStep 52 = .ok (.aload_n 0, 1) := by decide +kernel
theorem dX4_readStep_53 : decode cX4_readStep 53 = .ok (.aload_n 1, 1) := by decide +kernel
theorem dX4_readStep_54 : decode cX4_readStep 54 = .ok (.getfield 77, 3) := by decide +kernel
theorem dX4_readStep_57 : decode cX4_readStep 57 = .ok (.aload_n 0, 1) := by decide +kernel
theorem dX4_readStep_58 : decode cX4_readStep 58 = .ok (.getfield 15, 3) := by decide +kernel
theorem dX4_readStep_61 : decode cX4_readStep 61 = .ok (.aload_n 0, 1) := by decide +kernel
theorem dX4_readStep_62 : decode cX4_readStep 62 = .ok (.getfield 18, 3) := by decide +kernel
theorem dX4_readStep_65 : decode cX4_readStep 65 = .ok (.invokevirtual 158, 3) := by decide +kernel
theorem dX4_readStep_68 : decode cX4_readStep 68 = .ok (.iload_n 2, 1) := by decide +kernel
theorem dX4_readStep_69 : decode cX4_readStep 69 = .ok (.bipush 6, 2) := by decide +kernel
theorem dX4_readStep_71 : decode cX4_readStep 71 = .ok (.if_icmp .ne 13, 3) := by decide +kernel
theorem dX4_readStep_74 : decode cX4_readStep 74 = .ok (.aload_n 0, 1) := by decide +kernel
theorem dX4_readStep_75 : decode cX4_readStep 75 = .ok (.iconst 1, 1) := by decide +kernel
theorem dX4_readStep_76 : decode cX4_readStep 76 = .ok (.bipush 7, 2) := by decide +kernel
theorem dX4_readStep_78 : decode cX4_readStep 78 = .ok (.invokevirtual 138, 3) := by decide +kernel
theorem dX4_readStep_81 : decode cX4_readStep 81 = .ok (.goto 4, 3) := by decide +kernel
theorem dX4_readStep_84 : decode cX4_readStep 84 = .ok (.iconst 0, 1) := by decide +kernel
theorem dX4_readStep_85 : decode cX4_readStep 85 = .ok (.istore_n 3, 1) := by decide +kernel
theorem dX4_readStep_86 : decode cX4_readStep 86 = .ok (.aload_n 0, 1) := by decide +kernel
theorem dX4_readStep_87 : decode cX4_readStep 87 = .ok (.aload_n 1, 1) := by decide +kernel
theorem dX4_readStep_88 : decode cX4_readStep 88 = .ok (.getfield 77, 3) := by decide +kernel
theorem dX4_readStep_91 : decode cX4_readStep 91 = .ok (.aload_n 0, 1) := by decide +kernel
theorem dX4_readStep_92 : decode cX4_readStep 92 = .ok (.getfield 21, 3) := by decide +kernel
theorem dX4_readStep_95 : decode cX4_readStep 95 = .ok (.aload_n 0, 1) := by decide +kernel
theorem dX4_readStep_96 : decode cX4_readStep 96 = .ok (.getfield 24, 3) := by decide +kernel
theorem dX4_readStep_99 : decode cX4_readStep 99 = .ok (.invokevirtual 158, 3) := by decide +kernel
theorem dX4_readStep_102 : decode cX4_readStep 102 = .ok (.aload_n 0, 1) := by decide +kernel
theorem dX4_readStep_103 : decode cX4_readStep 103 = .ok (.aload_n 1, 1) := by decide +kernel
theorem dX4_readStep_104 : decode cX4_readStep 104 = .ok (.invokevirtual 142, 3) := by decide +kernel
theorem dX4_readStep_107 : decode cX4_readStep 107 = .ok (.istore 4, 2) := by decide +kernel
theorem dX4_readStep_109 : decode cX4_readStep 109 = .ok (.aload_n 0, 1) := by decide +kernel
theorem dX4_readStep_110 : decode cX4_readStep 110 = .ok (.getfield 27, 3) := by decide +kernel
theorem dX4_readStep_113 : decode cX4_readStep 113 = .ok (.ifCond .ne 11, 3) := by decide +kernel
theorem dX4_readStep_116 : decode cX4_readStep 116 = .ok (.aload_n 1, 1) := by decide +kernel
theorem dX4_readStep_117 : decode cX4_readStep 117 = .ok (.iload_n 2, 1) := by decide +kernel
theorem dX4_readStep_118 : decode cX4_readStep 118 = .ok (.iload_n 3, 1) := by decide +kernel
theorem dX4_readStep_119 : decode cX4_readStep 119 = .ok (.iload 4, 2) := by decide +kernel
theorem dX4_readStep_121 : decode cX4_readStep 121 = .ok (.invokevirtual 162, 3) := by decide +kernel
theorem dX4_readStep_124 : decode cX4_readStep 124 = .ok (.return_, 1) := by decide +kernel
theorem dX4_linkStep_0 : decode cX4_linkStep 0 = .ok (.aload_n 1, 1) := by decide +kernel
theorem dX4_linkStep_1 : decode cX4_linkStep 1 = .ok (.getfield 166, 3) := by decide +kernel
theorem dX4_linkStep_4 : decode cX4_linkStep 4 = .ok (.iload_n 2, 1) := by decide +kernel
theorem dX4_linkStep_5 : decode cX4_linkStep 5 = .ok (.iaload, 1) := by decide +kernel
theorem dX4_linkStep_6 : decode cX4_linkStep 6 = .ok (.istore_n 3, 1) := by decide +kernel
theorem dX4_linkStep_7 : decode cX4_linkStep 7 = .ok (.iload_n 3, 1) := by decide +kernel
theorem dX4_linkStep_8 : decode cX4_linkStep 8 = .ok (.iconst (-1), 1) := by decide +kernel
theorem dX4_linkStep_9 : decode cX4_linkStep 9 = .ok (.if_icmp .eq 9, 3) := by decide +kernel
theorem dX4_linkStep_12 : decode cX4_linkStep 12 = .ok (.iload_n 3, 1) := by decide +kernel
theorem dX4_linkStep_13 : decode cX4_linkStep 13 = .ok (.bipush 7, 2) := by decide +kernel
theorem dX4_linkStep_15 : decode cX4_linkStep 15 = .ok (.if_icmp .ne 4, 3) := by decide +kernel
theorem dX4_linkStep_18 : decode cX4_linkStep 18 = .ok (.return_, 1) := by decide +kernel
theorem dX4_linkStep_19 : decode cX4_linkStep 19 = .ok (.aload_n 0, 1) := by decide +kernel
theorem dX4_linkStep_20 : decode cX4_linkStep 20 = .ok (.aload_n 0, 1) := by decide +kernel
theorem dX4_linkStep_21 : decode cX4_linkStep 21 = .ok (.getfield 15, 3) := by decide +kernel
theorem dX4_linkStep_24 : decode cX4_linkStep 24 = .ok (.iload_n 2, 1) := by decide +kernel
theorem dX4_linkStep_25 : decode cX4_linkStep 25 = .ok (.iaload, 1) := by decide +kernel
theorem dX4_linkStep_26 : decode cX4_linkStep 26 = .ok (.aload_n 1, 1) := by decide +kernel
theorem dX4_linkStep_27 : decode cX4_linkStep 27 = .ok (.getfield 77, 3) := by decide +kernel
theorem dX4_linkStep_30 : decode cX4_linkStep 30 = .ok (.invokevirtual 169, 3) := by decide +kernel
theorem dX4_linkStep_33 : decode cX4_linkStep 33 = .ok (.istore 4, 2) := by decide +kernel
theorem dX4_linkStep_35 : decode cX4_linkStep 35 = .ok (.aload_n 0, 1) := by decide +kernel
theorem dX4_linkStep_36 : decode cX4_linkStep 36 = .ok (.aload_n 0, 1) := by decide +kernel
theorem dX4_linkStep_37 : decode cX4_linkStep 37 = .ok (.getfield 21, 3) := by decide +kernel
theorem dX4_linkStep_40 : decode cX4_linkStep 40 = .ok (.iload_n 2, 1) := by decide +kernel
theorem dX4_linkStep_41 : decode cX4_linkStep 41 = .ok (.iaload, 1) := by decide +kernel
theorem dX4_linkStep_42 : decode cX4_linkStep 42 = .ok (.aload_n 1, 1) := by decide +kernel
theorem dX4_linkStep_43 : decode cX4_linkStep 43 = .ok (.getfield 77, 3) := by decide +kernel
theorem dX4_linkStep_46 : decode cX4_linkStep 46 = .ok (.invokevirtual 169, 3) := by decide +kernel
theorem dX4_linkStep_49 : decode cX4_linkStep 49 = .ok (.istore 5, 2) := by decide +kernel
theorem dX4_linkStep_51 : decode cX4_linkStep 51 = .ok (.aload_n 1, 1) := by decide +kernel
theorem dX4_linkStep_52 : decode cX4_linkStep 52 = .ok (.iload_n 3, 1) := by decide +kernel
theorem dX4_linkStep_53 : decode cX4_linkStep 53 = .ok (.iload 4, 2) := by decide +kernel
theorem dX4_linkStep_55 : decode cX4_linkStep 55 = .ok (.invokestatic 172, 3) := by decide +kernel
theorem dX4_linkStep_58 : decode cX4_linkStep 58 = .ok (.ifCond .ne 17, 3) := by decide +kernel
theorem dX4_linkStep_61 : decode cX4_linkStep 61 = .ok (.aload_n 0, 1) := by decide +kernel
theorem dX4_linkStep_62 : decode cX4_linkStep 62 = .ok (.iconst 4, 1) := by decide +kernel
theorem dX4_linkStep_63 : decode cX4_linkStep 63 = .ok (.aload_n 0, 1) := by decide +kernel
theorem dX4_linkStep_64 : decode cX4_linkStep 64 = .ok (.getfield 18, 3) := by decide +kernel
theorem dX4_linkStep_67 : decode cX4_linkStep 67 = .ok (.iload_n 2, 1) := by decide +kernel
theorem dX4_linkStep_68 : decode cX4_linkStep 68 = .ok (.iaload, 1) := by decide +kernel
theorem dX4_linkStep_69 : decode cX4_linkStep 69 = .ok (.invokevirtual 176, 3) := by decide +kernel
theorem dX4_linkStep_72 : decode cX4_linkStep 72 = .ok (.goto 42, 3) := by decide +kernel
theorem dX4_linkStep_75 : decode cX4_linkStep 75 = .ok (.aload_n 1, 1) := by decide +kernel
theorem dX4_linkStep_76 : decode cX4_linkStep 76 = .ok (.iload 5, 2) := by decide +kernel
theorem dX4_linkStep_78 : decode cX4_linkStep 78 = .ok (.invokevirtual 179, 3) := by decide +kernel
theorem dX4_linkStep_81 : decode cX4_linkStep 81 = .ok (.ifCond .ne 17, 3) := by decide +kernel
theorem dX4_linkStep_84 : decode cX4_linkStep 84 = .ok (.aload_n 0, 1) := by decide +kernel
theorem dX4_linkStep_85 : decode cX4_linkStep 85 = .ok (.iconst 4, 1) := by decide +kernel
theorem dX4_linkStep_86 : decode cX4_linkStep 86 = .ok (.aload_n 0, 1) := by decide +kernel
theorem dX4_linkStep_87 : decode cX4_linkStep 87 = .ok (.getfield 24, 3) := by decide +kernel
theorem dX4_linkStep_90 : decode cX4_linkStep 90 = .ok (.iload_n 2, 1) := by decide +kernel
theorem dX4_linkStep_91 : decode cX4_linkStep 91 = .ok (.iaload, 1) := by decide +kernel
theorem dX4_linkStep_92 : decode cX4_linkStep 92 = .ok (.invokevirtual 176, 3) := by decide +kernel
theorem dX4_linkStep_95 : decode cX4_linkStep 95 = .ok (.goto 19, 3) := by decide +kernel
theorem dX4_linkStep_98 : decode cX4_linkStep 98 = .ok (.aload_n 1, 1) := by decide +kernel
theorem dX4_linkStep_99 : decode cX4_linkStep 99 = .ok (.getfield 183, 3) := by decide +kernel
theorem dX4_linkStep_102 : decode cX4_linkStep 102 = .ok (.iload_n 2, 1) := by decide +kernel
theorem dX4_linkStep_103 : decode cX4_linkStep 103 = .ok (.iload 4, 2) := by decide +kernel
theorem dX4_linkStep_105 : decode cX4_linkStep 105 = .ok (.iastore, 1) := by decide +kernel
theorem dX4_linkStep_106 : decode cX4_linkStep 106 = .ok (.aload_n 1, 1) := by decide +kernel
theorem dX4_linkStep_107 : decode cX4_linkStep 107 = .ok (.getfield 186, 3) := by decide +kernel
theorem dX4_linkStep_110 : decode cX4_linkStep 110 = .ok (.iload_n 2, 1) := by decide +kernel
theorem dX4_linkStep_111 : decode cX4_linkStep 111 = .ok (.iload 5, 2) := by decide +kernel
theorem dX4_linkStep_113 : decode cX4_linkStep 113 = .ok (.iastore, 1) := by decide +kernel
theorem dX4_linkStep_114 : decode cX4_linkStep 114 = .ok (.return_, 1) := by decide +kernel
theorem dX4_mayBeFirst_0 : decode cX4_mayBeFirst 0 = .ok (.iload_n 1, 1) := by decide +kernel
theorem dX4_mayBeFirst_1 : decode cX4_mayBeFirst 1 = .ok (.iconst 5, 1) := by decide +kernel
theorem dX4_mayBeFirst_2 : decode cX4_mayBeFirst 2 = .ok (.if_icmp .ne 9, 3) := by decide +kernel
theorem dX4_mayBeFirst_5 : decode cX4_mayBeFirst 5 = .ok (.aload_n 0, 1) := by decide +kernel
theorem dX4_mayBeFirst_6 : decode cX4_mayBeFirst 6 = .ok (.iload_n 2, 1) := by decide +kernel
theorem dX4_mayBeFirst_7 : decode cX4_mayBeFirst 7 = .ok (.invokevirtual 179, 3) := by decide +kernel
theorem dX4_mayBeFirst_10 : decode cX4_mayBeFirst 10 = .ok (.ireturn, 1) := by decide +kernel
theorem dX4_mayBeFirst_11 : decode cX4_mayBeFirst 11 = .ok (.iload_n 1, 1) := by decide +kernel
theorem dX4_mayBeFirst_12 : decode cX4_mayBeFirst 12 = .ok (.bipush 6, 2) := by decide +kernel
theorem dX4_mayBeFirst_14 : decode cX4_mayBeFirst 14 = .ok (.if_icmp .ne 27, 3) := by decide +kernel
theorem dX4_mayBeFirst_17 : decode cX4_mayBeFirst 17 = .ok (.aload_n 0, 1) := by decide +kernel
theorem dX4_mayBeFirst_18 : decode cX4_mayBeFirst 18 = .ok (.iload_n 2, 1) := by decide +kernel
theorem dX4_mayBeFirst_19 : decode cX4_mayBeFirst 19 = .ok (.invokevirtual 179, 3) := by decide +kernel
theorem dX4_mayBeFirst_22 : decode cX4_mayBeFirst 22 = .ok (.ifCond .eq 17, 3) := by decide +kernel
theorem dX4_mayBeFirst_25 : decode cX4_mayBeFirst 25 = .ok (.aload_n 0, 1) := by decide +kernel
theorem dX4_mayBeFirst_26 : decode cX4_mayBeFirst 26 = .ok (.getfield 166, 3) := by decide +kernel
theorem dX4_mayBeFirst_29 : decode cX4_mayBeFirst 29 = .ok (.iload_n 2, 1) := by decide +kernel
theorem dX4_mayBeFirst_30 : decode cX4_mayBeFirst 30 = .ok (.iaload, 1) := by decide +kernel
theorem dX4_mayBeFirst_31 : decode cX4_mayBeFirst 31 = .ok (.iconst 4, 1) := by decide +kernel
theorem dX4_mayBeFirst_32 : decode cX4_mayBeFirst 32 = .ok (.if_icmp .gt 7, 3) := by decide +kernel
theorem dX4_mayBeFirst_35 : decode cX4_mayBeFirst 35 = .ok (.iconst 1, 1) := by decide +kernel
theorem dX4_mayBeFirst_36 : decode cX4_mayBeFirst 36 = .ok (.goto 4, 3) := by decide +kernel
theorem dX4_mayBeFirst_39 : decode cX4_mayBeFirst 39 = .ok (.iconst 0, 1) := by decide +kernel
theorem dX4_mayBeFirst_40 : decode cX4_mayBeFirst 40 = .ok (.ireturn, 1) := by decide +kernel
theorem dX4_mayBeFirst_41 : decode cX4_mayBeFirst 41 = .ok (.aload_n 0, 1) := by decide +kernel
theorem dX4_mayBeFirst_42 : decode cX4_mayBeFirst 42 = .ok (.iload_n 2, 1) := by decide +kernel
theorem dX4_mayBeFirst_43 : decode cX4_mayBeFirst 43 = .ok (.invokevirtual 189, 3) := by decide +kernel
theorem dX4_mayBeFirst_46 : decode cX4_mayBeFirst 46 = .ok (.ireturn, 1) := by decide +kernel
theorem dX4_itemNamed_0 : decode cX4_itemNamed 0 = .ok (.iconst 0, 1) := by decide +kernel
theorem dX4_itemNamed_1 : decode cX4_itemNamed 1 = .ok (.istore_n 3, 1) := by decide +kernel
theorem dX4_itemNamed_2 : decode cX4_itemNamed 2 = .ok (.iload_n 3, 1) := by decide +kernel
theorem dX4_itemNamed_3 : decode cX4_itemNamed 3 = .ok (.iload_n 2, 1) := by decide +kernel
theorem dX4_itemNamed_4 : decode cX4_itemNamed 4 = .ok (.if_icmp .ge 27, 3) := by decide +kernel
theorem dX4_itemNamed_7 : decode cX4_itemNamed 7 = .ok (.iload_n 3, 1) := by decide +kernel
theorem dX4_itemNamed_8 : decode cX4_itemNamed 8 = .ok (.bipush 20, 2) := by decide +kernel
theorem dX4_itemNamed_10 : decode cX4_itemNamed 10 = .ok (.if_icmp .ge 21, 3) := by decide +kernel
theorem dX4_itemNamed_13 : decode cX4_itemNamed 13 = .ok (.aload_n 0, 1) := by decide +kernel
theorem dX4_itemNamed_14 : decode cX4_itemNamed 14 = .ok (.getfield 9, 3) := by decide +kernel
theorem dX4_itemNamed_17 : decode cX4_itemNamed 17 = .ok (.iload_n 3, 1) := by decide +kernel
theorem dX4_itemNamed_18 : decode cX4_itemNamed 18 = .ok (.iaload, 1) := by decide +kernel
theorem dX4_itemNamed_19 : decode cX4_itemNamed 19 = .ok (.iload_n 1, 1) := by decide +kernel
theorem dX4_itemNamed_20 : decode cX4_itemNamed 20 = .ok (.if_icmp .ne 5, 3) := by decide +kernel
theorem dX4_itemNamed_23 : decode cX4_itemNamed 23 = .ok (.iload_n 3, 1) := by decide +kernel
theorem dX4_itemNamed_24 : decode cX4_itemNamed 24 = .ok (.ireturn, 1) := by decide +kernel
theorem dX4_itemNamed_25 : decode cX4_itemNamed 25 = .ok (.iinc 3 1, 3) := by decide +kernel
theorem dX4_itemNamed_28 : decode cX4_itemNamed 28 = .ok (.goto (-26), 3) := by decide +kernel
theorem dX4_itemNamed_31 : decode cX4_itemNamed 31 = .ok (.iconst (-1), 1) := by decide +kernel
theorem dX4_itemNamed_32 : decode cX4_itemNamed 32 = .ok (.ireturn, 1) := by decide +kernel
theorem dX4_fail_0 : decode cX4_fail 0 = .ok (.aload_n 0, 1) := by decide +kernel
theorem dX4_fail_1 : decode cX4_fail 1 = .ok (.iload_n 1, 1) := by decide +kernel
theorem dX4_fail_2 : decode cX4_fail 2 = .ok (.aload_n 0, 1) := by decide +kernel
theorem dX4_fail_3 : decode cX4_fail 3 = .ok (.getfield 39, 3) := by decide +kernel
theorem dX4_fail_6 : decode cX4_fail 6 = .ok (.getfield 192, 3) := by decide +kernel
theorem dX4_fail_9 : decode cX4_fail 9 = .ok (.invokevirtual 176, 3) := by decide +kernel
theorem dX4_fail_12 : decode cX4_fail 12 = .ok (.return_, 1) := by decide +kernel
theorem dX4_failAt_0 : decode cX4_failAt 0 = .ok (.aload_n 0, 1) := by decide +kernel
theorem dX4_failAt_1 : decode cX4_failAt 1 = .ok (.getfield 27, 3) := by decide +kernel
theorem dX4_failAt_4 : decode cX4_failAt 4 = .ok (.ifCond .ne 13, 3) := by decide +kernel
theorem dX4_failAt_7 : decode cX4_failAt 7 = .ok (.aload_n 0, 1) := by decide +kernel
theorem dX4_failAt_8 : decode cX4_failAt 8 = .ok (.iload_n 1, 1) := by decide +kernel
theorem dX4_failAt_9 : decode cX4_failAt 9 = .ok (.putfield 27, 3) := by decide +kernel
theorem dX4_failAt_12 : decode cX4_failAt 12 = .ok (.aload_n 0, 1) := by decide +kernel
theorem dX4_failAt_13 : decode cX4_failAt 13 = .ok (.iload_n 2, 1) := by decide +kernel
theorem dX4_failAt_14 : decode cX4_failAt 14 = .ok (.putfield 31, 3) := by decide +kernel
theorem dX4_failAt_17 : decode cX4_failAt 17 = .ok (.return_, 1) := by decide +kernel
theorem dX4_takeSemicolon_0 : decode cX4_takeSemicolon 0 = .ok (.aload_n 0, 1) := by decide +kernel
theorem dX4_takeSemicolon_1 : decode cX4_takeSemicolon 1 = .ok (.getfield 39, 3) := by decide +kernel
theorem dX4_takeSemicolon_4 : decode cX4_takeSemicolon 4 = .ok (.getfield 84, 3) := by decide +kernel
theorem dX4_takeSemicolon_7 : decode cX4_takeSemicolon 7 = .ok (.iconst 3, 1) := by decide +kernel
theorem dX4_takeSemicolon_8 : decode cX4_takeSemicolon 8 = .ok (.if_icmp .eq 8, 3) := by decide +kernel
theorem dX4_takeSemicolon_11 : decode cX4_takeSemicolon 11 = .ok (.aload_n 0, 1) := by decide +kernel
theorem dX4_takeSemicolon_12 : decode cX4_takeSemicolon 12 = .ok (.iconst 1, 1) := by decide +kernel
theorem dX4_takeSemicolon_13 : decode cX4_takeSemicolon 13 = .ok (.invokevirtual 195, 3) := by decide +kernel
theorem dX4_takeSemicolon_16 : decode cX4_takeSemicolon 16 = .ok (.aload_n 0, 1) := by decide +kernel
theorem dX4_takeSemicolon_17 : decode cX4_takeSemicolon 17 = .ok (.getfield 39, 3) := by decide +kernel
theorem dX4_takeSemicolon_20 : decode cX4_takeSemicolon 20 = .ok (.invokevirtual 198, 3) := by decide +kernel
theorem dX4_takeSemicolon_23 : decode cX4_takeSemicolon 23 = .ok (.return_, 1) := by decide +kernel
theorem dX4_takeWord_0 : decode cX4_takeWord 0 = .ok (.aload_n 0, 1) := by decide +kernel
theorem dX4_takeWord_1 : decode cX4_takeWord 1 = .ok (.getfield 39, 3) := by decide +kernel
theorem dX4_takeWord_4 : decode cX4_takeWord 4 = .ok (.aload_n 1, 1) := by decide +kernel
theorem dX4_takeWord_5 : decode cX4_takeWord 5 = .ok (.invokevirtual 61, 3) := by decide +kernel
theorem dX4_takeWord_8 : decode cX4_takeWord 8 = .ok (.ifCond .ne 8, 3) := by decide +kernel
theorem dX4_takeWord_11 : decode cX4_takeWord 11 = .ok (.aload_n 0, 1) := by decide +kernel
theorem dX4_takeWord_12 : decode cX4_takeWord 12 = .ok (.iconst 1, 1) := by decide +kernel
theorem dX4_takeWord_13 : decode cX4_takeWord 13 = .ok (.invokevirtual 195, 3) := by decide +kernel
theorem dX4_takeWord_16 : decode cX4_takeWord 16 = .ok (.aload_n 0, 1) := by decide +kernel
theorem dX4_takeWord_17 : decode cX4_takeWord 17 = .ok (.getfield 39, 3) := by decide +kernel
theorem dX4_takeWord_20 : decode cX4_takeWord 20 = .ok (.invokevirtual 198, 3) := by decide +kernel
theorem dX4_takeWord_23 : decode cX4_takeWord 23 = .ok (.return_, 1) := by decide +kernel
theorem dX4_takeItemWord_0 : decode cX4_takeItemWord 0 = .ok (.aload_n 0, 1) := by decide +kernel
theorem dX4_takeItemWord_1 : decode cX4_takeItemWord 1 = .ok (.getfield 39, 3) := by decide +kernel
theorem dX4_takeItemWord_4 : decode cX4_takeItemWord 4 = .ok (.aload_n 1, 1) := by decide +kernel
theorem dX4_takeItemWord_5 : decode cX4_takeItemWord 5 = .ok (.invokevirtual 61, 3) := by decide +kernel
theorem dX4_takeItemWord_8 : decode cX4_takeItemWord 8 = .ok (.ifCond .eq 12, 3) := by decide +kernel
theorem dX4_takeItemWord_11 : decode cX4_takeItemWord 11 = .ok (.iload_n 2, 1) := by decide +kernel
theorem dX4_takeItemWord_12 : decode cX4_takeItemWord 12 = .ok (.ifCond .ne 8, 3) := by decide +kernel
theorem dX4_takeItemWord_15 : decode cX4_takeItemWord 15 = .ok (.aload_n 0, 1) := by decide +kernel
theorem dX4_takeItemWord_16 : decode cX4_takeItemWord 16 = .ok (.iconst 3, 1) := by decide +kernel
theorem dX4_takeItemWord_17 : decode cX4_takeItemWord 17 = .ok (.invokevirtual 195, 3) := by decide +kernel
theorem dX4_takeItemWord_20 : decode cX4_takeItemWord 20 = .ok (.aload_n 0, 1) := by decide +kernel
theorem dX4_takeItemWord_21 : decode cX4_takeItemWord 21 = .ok (.aload_n 1, 1) := by decide +kernel
theorem dX4_takeItemWord_22 : decode cX4_takeItemWord 22 = .ok (.invokevirtual 89, 3) := by decide +kernel
theorem dX4_takeItemWord_25 : decode cX4_takeItemWord 25 = .ok (.return_, 1) := by decide +kernel
theorem dX4_takeItemName_0 : decode cX4_takeItemName 0 = .ok (.aload_n 0, 1) := by decide +kernel
theorem dX4_takeItemName_1 : decode cX4_takeItemName 1 = .ok (.getfield 39, 3) := by decide +kernel
theorem dX4_takeItemName_4 : decode cX4_takeItemName 4 = .ok (.invokevirtual 201, 3) := by decide +kernel
theorem dX4_takeItemName_7 : decode cX4_takeItemName 7 = .ok (.ifCond .ne 14, 3) := by decide +kernel
theorem dX4_takeItemName_10 : decode cX4_takeItemName 10 = .ok (.aload_n 0, 1) := by decide +kernel
theorem dX4_takeItemName_11 : decode cX4_takeItemName 11 = .ok (.getfield 39, 3) := by decide +kernel
theorem dX4_takeItemName_14 : decode cX4_takeItemName 14 = .ok (.invokevirtual 204, 3) := by decide +kernel
theorem dX4_takeItemName_17 : decode cX4_takeItemName 17 = .ok (.iconst (-1), 1) := by decide +kernel
theorem dX4_takeItemName_18 : decode cX4_takeItemName 18 = .ok (.if_icmp .eq 7, 3) := by decide +kernel
theorem dX4_takeItemName_21 : decode cX4_takeItemName 21 = .ok (.iconst 1, 1) := by decide +kernel
theorem dX4_takeItemName_22 : decode cX4_takeItemName 22 = .ok (.goto 4, 3) := by decide +kernel
theorem dX4_takeItemName_25 : decode cX4_takeItemName 25 = .ok (.iconst 0, 1) := by decide +kernel
theorem dX4_takeItemName_26 : decode cX4_takeItemName 26 = .ok (.istore_n 2, 1) := by decide +kernel
theorem dX4_takeItemName_27 : decode cX4_takeItemName 27 = .ok (.aload_n 0, 1) := by decide +kernel
theorem dX4_takeItemName_28 : decode cX4_takeItemName 28 = .ok (.aload_n 0, 1) := by decide +kernel
theorem dX4_takeItemName_29 : decode cX4_takeItemName 29 = .ok (.getfield 39, 3) := by decide +kernel
theorem dX4_takeItemName_32 : decode cX4_takeItemName 32 = .ok (.getfield 207, 3) := by decide +kernel
theorem dX4_takeItemName_35 : decode cX4_takeItemName 35 = .ok (.iload_n 1, 1) := by decide +kernel
theorem dX4_takeItemName_36 : decode cX4_takeItemName 36 = .ok (.invokevirtual 169, 3) := by decide +kernel
theorem dX4_takeItemName_39 : decode cX4_takeItemName 39 = .ok (.iconst (-1), 1) := by decide +kernel
theorem dX4_takeItemName_40 : decode cX4_takeItemName 40 = .ok (.if_icmp .eq 7, 3) := by decide +kernel
theorem dX4_takeItemName_43 : decode cX4_takeItemName 43 = .ok (.iconst 1, 1) := by decide +kernel
theorem dX4_takeItemName_44 : decode cX4_takeItemName 44 = .ok (.goto 4, 3) := by decide +kernel
theorem dX4_takeItemName_47 : decode cX4_takeItemName 47 = .ok (.iconst 0, 1) := by decide +kernel
theorem dX4_takeItemName_48 : decode cX4_takeItemName 48 = .ok (.istore_n 3, 1) := by decide +kernel
theorem dX4_takeItemName_49 : decode cX4_takeItemName 49 = .ok (.aload_n 0, 1) := by decide +kernel
theorem dX4_takeItemName_50 : decode cX4_takeItemName 50 = .ok (.getfield 39, 3) := by decide +kernel
theorem dX4_takeItemName_53 : decode cX4_takeItemName 53 = .ok (.getfield 84, 3) := by decide +kernel
theorem dX4_takeItemName_56 : decode cX4_takeItemName 56 = .ok (.iconst 1, 1) := by decide +kernel
theorem dX4_takeItemName_57 : decode cX4_takeItemName 57 = .ok (.if_icmp .eq 11, 3) := by decide +kernel
theorem dX4_takeItemName_60 : decode cX4_takeItemName 60 = .ok (.aload_n 0, 1) := by decide +kernel
theorem dX4_takeItemName_61 : decode cX4_takeItemName 61 = .ok (.iconst 1, 1) := by decide +kernel
theorem dX4_takeItemName_62 : decode cX4_takeItemName 62 = .ok (.invokevirtual 195, 3) := by decide +kernel
theorem dX4_takeItemName_65 : decode cX4_takeItemName 65 = .ok (.goto 49, 3) := by decide +kernel
theorem dX4_takeItemName_68 : decode cX4_takeItemName 68 = .ok (.iload_n 2, 1) := by decide +kernel
theorem dX4_takeItemName_69 : decode cX4_takeItemName 69 = .ok (.ifCond .ne 18, 3) := by decide +kernel
theorem dX4_takeItemName_72 : decode cX4_takeItemName 72 = .ok (.iload_n 3, 1) := by decide +kernel
theorem dX4_takeItemName_73 : decode cX4_takeItemName 73 = .ok (.ifCond .ne 14, 3) := by decide +kernel
theorem dX4_takeItemName_76 : decode cX4_takeItemName 76 = .ok (.aload_n 0, 1) := by decide +kernel
theorem dX4_takeItemName_77 : decode cX4_takeItemName 77 = .ok (.getfield 39, 3) := by decide +kernel
theorem dX4_takeItemName_80 : decode cX4_takeItemName 80 = .ok (.getfield 207, 3) := by decide +kernel
theorem dX4_takeItemName_83 : decode cX4_takeItemName 83 = .ok (.iconst (-1), 1) := by decide +kernel
theorem dX4_takeItemName_84 : decode cX4_takeItemName 84 = .ok (.if_icmp .ne 11, 3) := by decide +kernel
theorem dX4_takeItemName_87 : decode cX4_takeItemName 87 = .ok (.aload_n 0, 1) := by decide +kernel
theorem dX4_takeItemName_88 : decode cX4_takeItemName 88 = .ok (.iconst 2, 1) := by decide +kernel
theorem dX4_takeItemName_89 : decode cX4_takeItemName 89 = .ok (.invokevirtual 195, 3) := by decide +kernel
theorem dX4_takeItemName_92 : decode cX4_takeItemName 92 = .ok (.goto 22, 3) := by decide +kernel
theorem dX4_takeItemName_95 : decode cX4_takeItemName 95 = .ok (.iload_n 1, 1) := by decide +kernel
theorem dX4_takeItemName_96 : decode cX4_takeItemName 96 = .ok (.bipush 20, 2) := by decide +kernel
theorem dX4_takeItemName_98 : decode cX4_takeItemName 98 = .ok (.if_icmp .ge 16, 3) := by decide +kernel
theorem dX4_takeItemName_101 : decode cX4_takeItemName 101 = .ok (.aload_n 0, 1) := by decide +kernel
theorem dX4_takeItemName_102 : decode cX4_takeItemName 102 = .ok (.getfield 9, 3) := by decide +kernel
theorem dX4_takeItemName_105 : decode cX4_takeItemName 105 = .ok (.iload_n 1, 1) := by decide +kernel
theorem dX4_takeItemName_106 : decode cX4_takeItemName 106 = .ok (.aload_n 0, 1) := by decide +kernel
theorem dX4_takeItemName_107 : decode cX4_takeItemName 107 = .ok (.getfield 39, 3) := by decide +kernel
theorem dX4_takeItemName_110 : decode cX4_takeItemName 110 = .ok (.getfield 207, 3) := by decide +kernel
theorem dX4_takeItemName_113 : decode cX4_takeItemName 113 = .ok (.iastore, 1) := by decide +kernel
theorem dX4_takeItemName_114 : decode cX4_takeItemName 114 = .ok (.aload_n 0, 1) := by decide +kernel
theorem dX4_takeItemName_115 : decode cX4_takeItemName 115 = .ok (.getfield 39, 3) := by decide +kernel
theorem dX4_takeItemName_118 : decode cX4_takeItemName 118 = .ok (.invokevirtual 198, 3) := by decide +kernel
theorem dX4_takeItemName_121 : decode cX4_takeItemName 121 = .ok (.return_, 1) := by decide +kernel
theorem dX4_takeMinus_0 : decode cX4_takeMinus 0 = .ok (.aload_n 0, 1) := by decide +kernel
theorem dX4_takeMinus_1 : decode cX4_takeMinus 1 = .ok (.getfield 39, 3) := by decide +kernel
theorem dX4_takeMinus_4 : decode cX4_takeMinus 4 = .ok (.getfield 84, 3) := by decide +kernel
theorem dX4_takeMinus_7 : decode cX4_takeMinus 7 = .ok (.iconst 4, 1) := by decide +kernel
theorem dX4_takeMinus_8 : decode cX4_takeMinus 8 = .ok (.if_icmp .eq 5, 3) := by decide +kernel
theorem dX4_takeMinus_11 : decode cX4_takeMinus 11 = .ok (.iconst 0, 1) := by decide +kernel
theorem dX4_takeMinus_12 : decode cX4_takeMinus 12 = .ok (.ireturn, 1) := by decide +kernel
theorem dX4_takeMinus_13 : decode cX4_takeMinus 13 = .ok (.aload_n 0, 1) := by decide +kernel
theorem dX4_takeMinus_14 : decode cX4_takeMinus 14 = .ok (.getfield 39, 3) := by decide +kernel
theorem dX4_takeMinus_17 : decode cX4_takeMinus 17 = .ok (.invokevirtual 198, 3) := by decide +kernel
theorem dX4_takeMinus_20 : decode cX4_takeMinus 20 = .ok (.iconst 1, 1) := by decide +kernel
theorem dX4_takeMinus_21 : decode cX4_takeMinus 21 = .ok (.ireturn, 1) := by decide +kernel
theorem dX4_takeMeasure_0 : decode cX4_takeMeasure 0 = .ok (.aload_n 0, 1) := by decide +kernel
theorem dX4_takeMeasure_1 : decode cX4_takeMeasure 1 = .ok (.aload_n 1, 1) := by decide +kernel
theorem dX4_takeMeasure_2 : decode cX4_takeMeasure 2 = .ok (.invokevirtual 89, 3) := by decide +kernel
theorem dX4_takeMeasure_5 : decode cX4_takeMeasure 5 = .ok (.aload_n 0, 1) := by decide +kernel
theorem dX4_takeMeasure_6 : decode cX4_takeMeasure 6 = .ok (.iload_n 2, 1) := by decide +kernel
theorem dX4_takeMeasure_7 : decode cX4_takeMeasure 7 = .ok (.iload_n 3, 1) := by decide +kernel
theorem dX4_takeMeasure_8 : decode cX4_takeMeasure 8 = .ok (.invokevirtual 138, 3) := by decide +kernel
theorem dX4_takeMeasure_11 : decode cX4_takeMeasure 11 = .ok (.ireturn, 1) := by decide +kernel
theorem dX4_takeNumber_0 : decode cX4_takeNumber 0 = .ok (.aload_n 0, 1) := by decide +kernel
theorem dX4_takeNumber_1 : decode cX4_takeNumber 1 = .ok (.getfield 39, 3) := by decide +kernel
theorem dX4_takeNumber_4 : decode cX4_takeNumber 4 = .ok (.getfield 84, 3) := by decide +kernel
theorem dX4_takeNumber_7 : decode cX4_takeNumber 7 = .ok (.iconst 2, 1) := by decide +kernel
theorem dX4_takeNumber_8 : decode cX4_takeNumber 8 = .ok (.if_icmp .eq 11, 3) := by decide +kernel
theorem dX4_takeNumber_11 : decode cX4_takeNumber 11 = .ok (.aload_n 0, 1) := by decide +kernel
theorem dX4_takeNumber_12 : decode cX4_takeNumber 12 = .ok (.iconst 1, 1) := by decide +kernel
theorem dX4_takeNumber_13 : decode cX4_takeNumber 13 = .ok (.invokevirtual 195, 3) := by decide +kernel
theorem dX4_takeNumber_16 : decode cX4_takeNumber 16 = .ok (.goto 30, 3) := by decide +kernel
theorem dX4_takeNumber_19 : decode cX4_takeNumber 19 = .ok (.aload_n 0, 1) := by decide +kernel
theorem dX4_takeNumber_20 : decode cX4_takeNumber 20 = .ok (.getfield 39, 3) := by decide +kernel
theorem dX4_takeNumber_23 : decode cX4_takeNumber 23 = .ok (.getfield 210, 3) := by decide +kernel
theorem dX4_takeNumber_26 : decode cX4_takeNumber 26 = .ok (.iload_n 1, 1) := by decide +kernel
theorem dX4_takeNumber_27 : decode cX4_takeNumber 27 = .ok (.if_icmp .lt 14, 3) := by decide +kernel
theorem dX4_takeNumber_30 : decode cX4_takeNumber 30 = .ok (.aload_n 0, 1) := by decide +kernel
theorem dX4_takeNumber_31 : decode cX4_takeNumber 31 = .ok (.getfield 39, 3) := by decide +kernel
theorem dX4_takeNumber_34 : decode cX4_takeNumber 34 = .ok (.getfield 210, 3) := by decide +kernel
theorem dX4_takeNumber_37 : decode cX4_takeNumber 37 = .ok (.iload_n 2, 1) := by decide +kernel
theorem dX4_takeNumber_38 : decode cX4_takeNumber 38 = .ok (.if_icmp .le 8, 3) := by decide +kernel
theorem dX4_takeNumber_41 : decode cX4_takeNumber 41 = .ok (.aload_n 0, 1) := by decide +kernel
theorem dX4_takeNumber_42 : decode cX4_takeNumber 42 = .ok (.iconst 2, 1) := by decide +kernel
theorem dX4_takeNumber_43 : decode cX4_takeNumber 43 = .ok (.invokevirtual 195, 3) := by decide +kernel
theorem dX4_takeNumber_46 : decode cX4_takeNumber 46 = .ok (.aload_n 0, 1) := by decide +kernel
theorem dX4_takeNumber_47 : decode cX4_takeNumber 47 = .ok (.getfield 39, 3) := by decide +kernel
theorem dX4_takeNumber_50 : decode cX4_takeNumber 50 = .ok (.getfield 210, 3) := by decide +kernel
theorem dX4_takeNumber_53 : decode cX4_takeNumber 53 = .ok (.istore_n 3, 1) := by decide +kernel
theorem dX4_takeNumber_54 : decode cX4_takeNumber 54 = .ok (.aload_n 0, 1) := by decide +kernel
theorem dX4_takeNumber_55 : decode cX4_takeNumber 55 = .ok (.getfield 39, 3) := by decide +kernel
theorem dX4_takeNumber_58 : decode cX4_takeNumber 58 = .ok (.invokevirtual 198, 3) := by decide +kernel
theorem dX4_takeNumber_61 : decode cX4_takeNumber 61 = .ok (.iload_n 3, 1) := by decide +kernel
theorem dX4_takeNumber_62 : decode cX4_takeNumber 62 = .ok (.ireturn, 1) := by decide +kernel
theorem dX4_takeQuick_0 : decode cX4_takeQuick 0 = .ok (.aload_n 0, 1) := by decide +kernel
theorem dX4_takeQuick_1 : decode cX4_takeQuick 1 = .ok (.ldc 213, 2) := by decide +kernel
theorem dX4_takeQuick_3 : decode cX4_takeQuick 3 = .ok (.invokevirtual 89, 3) := by decide +kernel
theorem dX4_takeQuick_6 : decode cX4_takeQuick 6 = .ok (.aload_n 0, 1) := by decide +kernel
theorem dX4_takeQuick_7 : decode cX4_takeQuick 7 = .ok (.getfield 39, 3) := by decide +kernel
theorem dX4_takeQuick_10 : decode cX4_takeQuick 10 = .ok (.getfield 84, 3) := by decide +kernel
theorem dX4_takeQuick_13 : decode cX4_takeQuick 13 = .ok (.iconst 2, 1) := by decide +kernel
theorem dX4_takeQuick_14 : decode cX4_takeQuick 14 = .ok (.if_icmp .ne 22, 3) := by decide +kernel
theorem dX4_takeQuick_17 : decode cX4_takeQuick 17 = .ok (.aload_n 0, 1) := by decide +kernel
theorem dX4_takeQuick_18 : decode cX4_takeQuick 18 = .ok (.getfield 39, 3) := by decide +kernel
theorem dX4_takeQuick_21 : decode cX4_takeQuick 21 = .ok (.getfield 210, 3) := by decide +kernel
theorem dX4_takeQuick_24 : decode cX4_takeQuick 24 = .ok (.iload_n 1, 1) := by decide +kernel
theorem dX4_takeQuick_25 : decode cX4_takeQuick 25 = .ok (.invokestatic 214, 3) := by decide +kernel
theorem dX4_takeQuick_28 : decode cX4_takeQuick 28 = .ok (.ifCond .ne 8, 3) := by decide +kernel
theorem dX4_takeQuick_31 : decode cX4_takeQuick 31 = .ok (.aload_n 0, 1) := by decide +kernel
theorem dX4_takeQuick_32 : decode cX4_takeQuick 32 = .ok (.iconst 2, 1) := by decide +kernel
theorem dX4_takeQuick_33 : decode cX4_takeQuick 33 = .ok (.invokevirtual 195, 3) := by decide +kernel
theorem dX4_takeQuick_36 : decode cX4_takeQuick 36 = .ok (.aload_n 0, 1) := by decide +kernel
theorem dX4_takeQuick_37 : decode cX4_takeQuick 37 = .ok (.iconst 0, 1) := by decide +kernel
theorem dX4_takeQuick_38 : decode cX4_takeQuick 38 = .ok (.bipush 12, 2) := by decide +kernel
theorem dX4_takeQuick_40 : decode cX4_takeQuick 40 = .ok (.invokevirtual 138, 3) := by decide +kernel
theorem dX4_takeQuick_43 : decode cX4_takeQuick 43 = .ok (.ireturn, 1) := by decide +kernel
theorem dX4_takeOperation_0 : decode cX4_takeOperation 0 = .ok (.aload_n 0, 1) := by decide +kernel
theorem dX4_takeOperation_1 : decode cX4_takeOperation 1 = .ok (.getfield 39, 3) := by decide +kernel
theorem dX4_takeOperation_4 : decode cX4_takeOperation 4 = .ok (.invokevirtual 204, 3) := by decide +kernel
theorem dX4_takeOperation_7 : decode cX4_takeOperation 7 = .ok (.istore_n 1, 1) := by decide +kernel
theorem dX4_takeOperation_8 : decode cX4_takeOperation 8 = .ok (.iload_n 1, 1) := by decide +kernel
theorem dX4_takeOperation_9 : decode cX4_takeOperation 9 = .ok (.iconst (-1), 1) := by decide +kernel
theorem dX4_takeOperation_10 : decode cX4_takeOperation 10 = .ok (.if_icmp .ne 8, 3) := by decide +kernel
theorem dX4_takeOperation_13 : decode cX4_takeOperation 13 = .ok (.aload_n 0, 1) := by decide +kernel
theorem dX4_takeOperation_14 : decode cX4_takeOperation 14 = .ok (.iconst 1, 1) := by decide +kernel
theorem dX4_takeOperation_15 : decode cX4_takeOperation 15 = .ok (.invokevirtual 195, 3) := by decide +kernel
theorem dX4_takeOperation_18 : decode cX4_takeOperation 18 = .ok (.aload_n 0, 1) := by decide +kernel
theorem dX4_takeOperation_19 : decode cX4_takeOperation 19 = .ok (.getfield 39, 3) := by decide +kernel
theorem dX4_takeOperation_22 : decode cX4_takeOperation 22 = .ok (.invokevirtual 198, 3) := by decide +kernel
theorem dX4_takeOperation_25 : decode cX4_takeOperation 25 = .ok (.iload_n 1, 1) := by decide +kernel
theorem dX4_takeOperation_26 : decode cX4_takeOperation 26 = .ok (.ireturn, 1) := by decide +kernel
theorem dX4_takeReference_0 : decode cX4_takeReference 0 = .ok (.aload_n 0, 1) := by decide +kernel
theorem dX4_takeReference_1 : decode cX4_takeReference 1 = .ok (.getfield 39, 3) := by decide +kernel
theorem dX4_takeReference_4 : decode cX4_takeReference 4 = .ok (.getfield 84, 3) := by decide +kernel
theorem dX4_takeReference_7 : decode cX4_takeReference 7 = .ok (.iconst 1, 1) := by decide +kernel
theorem dX4_takeReference_8 : decode cX4_takeReference 8 = .ok (.if_icmp .eq 11, 3) := by decide +kernel
theorem dX4_takeReference_11 : decode cX4_takeReference 11 = .ok (.aload_n 0, 1) := by decide +kernel
theorem dX4_takeReference_12 : decode cX4_takeReference 12 = .ok (.iconst 1, 1) := by decide +kernel
theorem dX4_takeReference_13 : decode cX4_takeReference 13 = .ok (.invokevirtual 195, 3) := by decide +kernel
theorem dX4_takeReference_16 : decode cX4_takeReference 16 = .ok (.goto 29, 3) := by decide +kernel
theorem dX4_takeReference_19 : decode cX4_takeReference 19 = .ok (.iload_n 1, 1) := by decide +kernel
theorem dX4_takeReference_20 : decode cX4_takeReference 20 = .ok (.bipush 20, 2) := by decide +kernel
theorem dX4_takeReference_22 : decode cX4_takeReference 22 = .ok (.if_icmp .ge 23, 3) := by decide +kernel
theorem dX4_takeReference_25 : decode cX4_takeReference 25 = .ok (.aload_n 2, 1) := by decide +kernel
theorem dX4_takeReference_26 : decode cX4_takeReference 26 = .ok (.iload_n 1, 1) := by decide +kernel
theorem dX4_takeReference_27 : decode cX4_takeReference 27 = .ok (.aload_n 0, 1) := by decide +kernel
theorem dX4_takeReference_28 : decode cX4_takeReference 28 = .ok (.getfield 39, 3) := by decide +kernel
theorem dX4_takeReference_31 : decode cX4_takeReference 31 = .ok (.getfield 207, 3) := by decide +kernel
theorem dX4_takeReference_34 : decode cX4_takeReference 34 = .ok (.iastore, 1) := by decide +kernel
theorem dX4_takeReference_35 : decode cX4_takeReference 35 = .ok (.aload_n 3, 1) := by decide +kernel
theorem dX4_takeReference_36 : decode cX4_takeReference 36 = .ok (.iload_n 1, 1) := by decide +kernel
theorem dX4_takeReference_37 : decode cX4_takeReference 37 = .ok (.aload_n 0, 1) := by decide +kernel
theorem dX4_takeReference_38 : decode cX4_takeReference 38 = .ok (.getfield 39, 3) := by decide +kernel
theorem dX4_takeReference_41 : decode cX4_takeReference 41 = .ok (.getfield 192, 3) := by decide +kernel
theorem dX4_takeReference_44 : decode cX4_takeReference 44 = .ok (.iastore, 1) := by decide +kernel
theorem dX4_takeReference_45 : decode cX4_takeReference 45 = .ok (.aload_n 0, 1) := by decide +kernel
theorem dX4_takeReference_46 : decode cX4_takeReference 46 = .ok (.getfield 39, 3) := by decide +kernel
theorem dX4_takeReference_49 : decode cX4_takeReference 49 = .ok (.invokevirtual 198, 3) := by decide +kernel
theorem dX4_takeReference_52 : decode cX4_takeReference 52 = .ok (.return_, 1) := by decide +kernel
theorem dX4_takeAddress_0 : decode cX4_takeAddress 0 = .ok (.aload_n 0, 1) := by decide +kernel
theorem dX4_takeAddress_1 : decode cX4_takeAddress 1 = .ok (.getfield 39, 3) := by decide +kernel
theorem dX4_takeAddress_4 : decode cX4_takeAddress 4 = .ok (.ldc 218, 2) := by decide +kernel
theorem dX4_takeAddress_6 : decode cX4_takeAddress 6 = .ok (.invokevirtual 61, 3) := by decide +kernel
theorem dX4_takeAddress_9 : decode cX4_takeAddress 9 = .ok (.ifCond .ne 5, 3) := by decide +kernel
theorem dX4_takeAddress_12 : decode cX4_takeAddress 12 = .ok (.iconst (-1), 1) := by decide +kernel
theorem dX4_takeAddress_13 : decode cX4_takeAddress 13 = .ok (.ireturn, 1) := by decide +kernel
theorem dX4_takeAddress_14 : decode cX4_takeAddress 14 = .ok (.aload_n 0, 1) := by decide +kernel
theorem dX4_takeAddress_15 : decode cX4_takeAddress 15 = .ok (.getfield 39, 3) := by decide +kernel
theorem dX4_takeAddress_18 : decode cX4_takeAddress 18 = .ok (.invokevirtual 198, 3) := by decide +kernel
theorem dX4_takeAddress_21 : decode cX4_takeAddress 21 = .ok (.aload_n 0, 1) := by decide +kernel
theorem dX4_takeAddress_22 : decode cX4_takeAddress 22 = .ok (.getfield 39, 3) := by decide +kernel
theorem dX4_takeAddress_25 : decode cX4_takeAddress 25 = .ok (.getfield 84, 3) := by decide +kernel
theorem dX4_takeAddress_28 : decode cX4_takeAddress 28 = .ok (.iconst 2, 1) := by decide +kernel
theorem dX4_takeAddress_29 : decode cX4_takeAddress 29 = .ok (.if_icmp .ne 22, 3) := by decide +kernel
theorem dX4_takeAddress_32 : decode cX4_takeAddress 32 = .ok (.aload_n 1, 1) := by decide +kernel
theorem dX4_takeAddress_33 : decode cX4_takeAddress 33 = .ok (.aload_n 0, 1) := by decide +kernel
theorem dX4_takeAddress_34 : decode cX4_takeAddress 34 = .ok (.getfield 39, 3) := by decide +kernel
theorem dX4_takeAddress_37 : decode cX4_takeAddress 37 = .ok (.getfield 210, 3) := by decide +kernel
theorem dX4_takeAddress_40 : decode cX4_takeAddress 40 = .ok (.invokevirtual 220, 3) := by decide +kernel
theorem dX4_takeAddress_43 : decode cX4_takeAddress 43 = .ok (.ifCond .eq 8, 3) := by decide +kernel
theorem dX4_takeAddress_46 : decode cX4_takeAddress 46 = .ok (.aload_n 0, 1) := by decide +kernel
theorem dX4_takeAddress_47 : decode cX4_takeAddress 47 = .ok (.iconst 2, 1) := by decide +kernel
theorem dX4_takeAddress_48 : decode cX4_takeAddress 48 = .ok (.invokevirtual 195, 3) := by decide +kernel
theorem dX4_takeAddress_51 : decode cX4_takeAddress 51 = .ok (.aload_n 0, 1) := by decide +kernel
theorem dX4_takeAddress_52 : decode cX4_takeAddress 52 = .ok (.iconst 0, 1) := by decide +kernel
theorem dX4_takeAddress_53 : decode cX4_takeAddress 53 = .ok (.aload_n 1, 1) := by decide +kernel
theorem dX4_takeAddress_54 : decode cX4_takeAddress 54 = .ok (.invokevirtual 123, 3) := by decide +kernel
theorem dX4_takeAddress_57 : decode cX4_takeAddress 57 = .ok (.iconst 1, 1) := by decide +kernel
theorem dX4_takeAddress_58 : decode cX4_takeAddress 58 = .ok (.isub, 1) := by decide +kernel
theorem dX4_takeAddress_59 : decode cX4_takeAddress 59 = .ok (.invokevirtual 138, 3) := by decide +kernel
theorem dX4_takeAddress_62 : decode cX4_takeAddress 62 = .ok (.ireturn, 1) := by decide +kernel
theorem dX5_init_0 : decode cX5_init 0 = .ok (.aload_n 0, 1) := by decide +kernel
theorem dX5_init_1 : decode cX5_init 1 = .ok (.invokespecial 3, 3) := by decide +kernel
theorem dX5_init_4 : decode cX5_init 4 = .ok (.aload_n 0, 1) := by decide +kernel
theorem dX5_init_5 : decode cX5_init 5 = .ok (.iconst 4, 1) := by decide +kernel
theorem dX5_init_6 : decode cX5_init 6 = .ok (.newarray .int, 2) := by decide +kernel
theorem dX5_init_8 : decode cX5_init 8 = .ok (.putfield 9, 3) := by decide +kernel
theorem dX5_init_11 : decode cX5_init 11 = .ok (.aload_n 0, 1) := by decide +kernel
theorem dX5_init_12 : decode cX5_init 12 = .ok (.iconst 0, 1) := by decide +kernel
theorem dX5_init_13 : decode cX5_init 13 = .ok (.putfield 15, 3) := by decide +kernel
theorem dX5_init_16 : decode cX5_init 16 = .ok (.aload_n 0, 1) := by decide +kernel
theorem dX5_init_17 : decode cX5_init 17 = .ok (.bipush 20, 2) := by decide +kernel
theorem dX5_init_19 : decode cX5_init 19 = .ok (.newarray .int, 2) := by decide +kernel
theorem dX5_init_21 : decode cX5_init 21 = .ok (.putfield 19, 3) := by decide +kernel
theorem dX5_init_24 : decode cX5_init 24 = .ok (.aload_n 0, 1) := by decide +kernel
theorem dX5_init_25 : decode cX5_init 25 = .ok (.bipush 48, 2) := by decide +kernel
theorem dX5_init_27 : decode cX5_init 27 = .ok (.newarray .boolean, 2) := by decide +kernel
theorem dX5_init_29 : decode cX5_init 29 = .ok (.putfield 22, 3) := by decide +kernel
theorem dX5_init_32 : decode cX5_init 32 = .ok (.aload_n 0, 1) := by decide +kernel
theorem dX5_init_33 : decode cX5_init 33 = .ok (.bipush 48, 2) := by decide +kernel
theorem dX5_init_35 : decode cX5_init 35 = .ok (.newarray .int, 2) := by decide +kernel
theorem dX5_init_37 : decode cX5_init 37 = .ok (.putfield 26, 3) := by decide +kernel
theorem dX5_init_40 : decode cX5_init 40 = .ok (.aload_n 0, 1) := by decide +kernel
theorem dX5_init_41 : decode cX5_init 41 = .ok (.bipush 24, 2) := by decide +kernel
theorem dX5_init_43 : decode cX5_init 43 = .ok (.newarray .int, 2) := by decide +kernel
theorem dX5_init_45 : decode cX5_init 45 = .ok (.putfield 29, 3) := by decide +kernel
theorem dX5_init_48 : decode cX5_init 48 = .ok (.aload_n 0, 1) := by decide +kernel
theorem dX5_init_49 : decode cX5_init 49 = .ok (.iconst 0, 1) := by decide +kernel
theorem dX5_init_50 : decode cX5_init 50 = .ok (.putfield 32, 3) := by decide +kernel
theorem dX5_init_53 : decode cX5_init 53 = .ok (.aload_n 0, 1) := by decide +kernel
theorem dX5_init_54 : decode cX5_init 54 = .ok (.iconst 0, 1) := by decide +kernel
theorem dX5_init_55 : decode cX5_init 55 = .ok (.putfield 36, 3) := by decide +kernel
theorem dX5_init_58 : decode cX5_init 58 = .ok (.aload_n 0, 1) := by decide +kernel
theorem dX5_init_59 : decode cX5_init 59 = .ok (.iconst 0, 1) := by decide +kernel
theorem dX5_init_60 : decode cX5_init 60 = .ok (.putfield 39, 3) := by decide +kernel
theorem dX5_init_63 : decode cX5_init 63 = .ok (.aload_n 0, 1) := by decide +kernel
theorem dX5_init_64 : decode cX5_init 64 = .ok (.lconst 0, 1) := by decide +kernel
theorem dX5_init_65 : decode cX5_init 65 = .ok (.putfield 42, 3) := by decide +kernel
theorem dX5_init_68 : decode cX5_init 68 = .ok (.aload_n 0, 1) := by decide +kernel
theorem dX5_init_69 : decode cX5_init 69 = .ok (.bipush 20, 2) := by decide +kernel
theorem dX5_init_71 : decode cX5_init 71 = .ok (.newarray .int, 2) := by decide +kernel
theorem dX5_init_73 : decode cX5_init 73 = .ok (.putfield 46, 3) := by decide +kernel
theorem dX5_init_76 : decode cX5_init 76 = .ok (.aload_n 0, 1) := by decide +kernel
theorem dX5_init_77 : decode cX5_init 77 = .ok (.aload_n 1, 1) := by decide +kernel
theorem dX5_init_78 : decode cX5_init 78 = .ok (.putfield 49, 3) := by decide +kernel
theorem dX5_init_81 : decode cX5_init 81 = .ok (.aload_n 0, 1) := by decide +kernel
theorem dX5_init_82 : decode cX5_init 82 = .ok (.aload_n 2, 1) := by decide +kernel
theorem dX5_init_83 : decode cX5_init 83 = .ok (.putfield 53, 3) := by decide +kernel
theorem dX5_init_86 : decode cX5_init 86 = .ok (.return_, 1) := by decide +kernel
theorem dX5_forget_0 : decode cX5_forget 0 = .ok (.aload_n 0, 1) := by decide +kernel
theorem dX5_forget_1 : decode cX5_forget 1 = .ok (.iconst 0, 1) := by decide +kernel
theorem dX5_forget_2 : decode cX5_forget 2 = .ok (.putfield 32, 3) := by decide +kernel
theorem dX5_forget_5 : decode cX5_forget 5 = .ok (.return_, 1) := by decide +kernel
theorem dX5_look_0 : decode cX5_look 0 = .ok (.aload_n 0, 1) := by decide +kernel
theorem dX5_look_1 : decode cX5_look 1 = .ok (.getfield 32, 3) := by decide +kernel
theorem dX5_look_4 : decode cX5_look 4 = .ok (.ifCond .eq 4, 3) := by decide +kernel
theorem dX5_look_7 : decode cX5_look 7 = .ok (.return_, 1) := by decide +kernel
theorem dX5_look_8 : decode cX5_look 8 = .ok (.aload_n 0, 1) := by decide +kernel
theorem dX5_look_9 : decode cX5_look 9 = .ok (.iconst 1, 1) := by decide +kernel
theorem dX5_look_10 : decode cX5_look 10 = .ok (.putfield 32, 3) := by decide +kernel
theorem dX5_look_13 : decode cX5_look 13 = .ok (.aload_n 0, 1) := by decide +kernel
theorem dX5_look_14 : decode cX5_look 14 = .ok (.iconst (-1), 1) := by decide +kernel
theorem dX5_look_15 : decode cX5_look 15 = .ok (.putfield 36, 3) := by decide +kernel
theorem dX5_look_18 : decode cX5_look 18 = .ok (.aload_n 0, 1) := by decide +kernel
theorem dX5_look_19 : decode cX5_look 19 = .ok (.iconst 0, 1) := by decide +kernel
theorem dX5_look_20 : decode cX5_look 20 = .ok (.putfield 39, 3) := by decide +kernel
theorem dX5_look_23 : decode cX5_look 23 = .ok (.aload_n 0, 1) := by decide +kernel
theorem dX5_look_24 : decode cX5_look 24 = .ok (.lconst 0, 1) := by decide +kernel
theorem dX5_look_25 : decode cX5_look 25 = .ok (.putfield 42, 3) := by decide +kernel
theorem dX5_look_28 : decode cX5_look 28 = .ok (.aload_n 0, 1) := by decide +kernel
theorem dX5_look_29 : decode cX5_look 29 = .ok (.invokevirtual 57, 3) := by decide +kernel
theorem dX5_look_32 : decode cX5_look 32 = .ok (.aload_n 0, 1) := by decide +kernel
theorem dX5_look_33 : decode cX5_look 33 = .ok (.invokevirtual 60, 3) := by decide +kernel
theorem dX5_look_36 : decode cX5_look 36 = .ok (.aload_n 0, 1) := by decide +kernel
theorem dX5_look_37 : decode cX5_look 37 = .ok (.getfield 53, 3) := by decide +kernel
theorem dX5_look_40 : decode cX5_look 40 = .ok (.aload_n 0, 1) := by decide +kernel
theorem dX5_look_41 : decode cX5_look 41 = .ok (.getfield 19, 3) := by decide +kernel
theorem dX5_look_44 : decode cX5_look 44 = .ok (.aload_n 0, 1) := by decide +kernel
theorem dX5_look_45 : decode cX5_look 45 = .ok (.getfield 49, 3) := by decide +kernel
theorem dX5_look_48 : decode cX5_look 48 = .ok (.getfield 63, 3) := by decide +kernel
theorem dX5_look_51 : decode cX5_look 51 = .ok (.invokevirtual 68, 3) := by decide +kernel
theorem dX5_look_54 : decode cX5_look 54 = .ok (.aload_n 0, 1) := by decide +kernel
theorem dX5_look_55 : decode cX5_look 55 = .ok (.iconst 0, 1) := by decide +kernel
theorem dX5_look_56 : decode cX5_look 56 = .ok (.lconst 1, 1) := by decide +kernel
theorem dX5_look_57 : decode cX5_look 57 = .ok (.invokevirtual 74, 3) := by decide +kernel
theorem dX5_look_60 : decode cX5_look 60 = .ok (.return_, 1) := by decide +kernel
theorem dX5_takeFixed_0 : decode cX5_takeFixed 0 = .ok (.iconst 0, 1) := by decide +kernel
theorem dX5_takeFixed_1 : decode cX5_takeFixed 1 = .ok (.istore_n 1, 1) := by decide +kernel
theorem dX5_takeFixed_2 : decode cX5_takeFixed 2 = .ok (.iload_n 1, 1) := by decide +kernel
theorem dX5_takeFixed_3 : decode cX5_takeFixed 3 = .ok (.bipush 48, 2) := by decide +kernel
theorem dX5_takeFixed_5 : decode cX5_takeFixed 5 = .ok (.if_icmp .ge 16, 3) := by decide +kernel
theorem dX5_takeFixed_8 : decode cX5_takeFixed 8 = .ok (.aload_n 0, 1) := by decide +kernel
theorem dX5_takeFixed_9 : decode cX5_takeFixed 9 = .ok (.getfield 22, 3) := by decide +kernel
theorem dX5_takeFixed_12 : decode cX5_takeFixed 12 = .ok (.iload_n 1, 1) := by decide +kernel
theorem dX5_takeFixed_13 : decode cX5_takeFixed 13 = .ok (.iconst 0, 1) := by decide +kernel
theorem dX5_takeFixed_14 : decode cX5_takeFixed 14 = .ok (.bastore, 1) := by decide +kernel
theorem dX5_takeFixed_15 : decode cX5_takeFixed 15 = .ok (.iinc 1 1, 3) := by decide +kernel
theorem dX5_takeFixed_18 : decode cX5_takeFixed 18 = .ok (.goto (-16), 3) := by decide +kernel
theorem dX5_takeFixed_21 : decode cX5_takeFixed 21 = .ok (.aload_n 0, 1) := by decide +kernel
theorem dX5_takeFixed_22 : decode cX5_takeFixed 22 = .ok (.iconst 0, 1) := by decide +kernel
theorem dX5_takeFixed_23 : decode cX5_takeFixed 23 = .ok (.putfield 15, 3) := by decide +kernel
theorem dX5_takeFixed_26 : decode cX5_takeFixed 26 = .ok (.iconst 0, 1) := by decide +kernel
theorem dX5_takeFixed_27 : decode cX5_takeFixed 27 = .ok (.istore_n 1, 1) := by decide +kernel
theorem dX5_takeFixed_28 : decode cX5_takeFixed 28 = .ok (.iload_n 1, 1) := by decide +kernel
theorem dX5_takeFixed_29 : decode cX5_takeFixed 29 = .ok (.aload_n 0, 1) := by decide +kernel
theorem dX5_takeFixed_30 : decode cX5_takeFixed 30 = .ok (.getfield 49, 3) := by decide +kernel
theorem dX5_takeFixed_33 : decode cX5_takeFixed 33 = .ok (.getfield 78, 3) := by decide +kernel
theorem dX5_takeFixed_36 : decode cX5_takeFixed 36 = .ok (.if_icmp .ge 75, 3) := by decide +kernel
theorem dX5_takeFixed_39 : decode cX5_takeFixed 39 = .ok (.aload_n 0, 1) := by decide +kernel
theorem dX5_takeFixed_40 : decode cX5_takeFixed 40 = .ok (.getfield 49, 3) := by decide +kernel
theorem dX5_takeFixed_43 : decode cX5_takeFixed 43 = .ok (.getfield 81, 3) := by decide +kernel
theorem dX5_takeFixed_46 : decode cX5_takeFixed 46 = .ok (.iload_n 1, 1) := by decide +kernel
theorem dX5_takeFixed_47 : decode cX5_takeFixed 47 = .ok (.iaload, 1) := by decide +kernel
theorem dX5_takeFixed_48 : decode cX5_takeFixed 48 = .ok (.istore_n 2, 1) := by decide +kernel
theorem dX5_takeFixed_49 : decode cX5_takeFixed 49 = .ok (.aload_n 0, 1) := by decide +kernel
theorem dX5_takeFixed_50 : decode cX5_takeFixed 50 = .ok (.getfield 19, 3) := by decide +kernel
theorem dX5_takeFixed_53 : decode cX5_takeFixed 53 = .ok (.iload_n 1, 1) := by decide +kernel
theorem dX5_takeFixed_54 : decode cX5_takeFixed 54 = .ok (.iload_n 2, 1) := by decide +kernel
theorem dX5_takeFixed_55 : decode cX5_takeFixed 55 = .ok (.iastore, 1) := by decide +kernel
theorem dX5_takeFixed_56 : decode cX5_takeFixed 56 = .ok (.aload_n 0, 1) := by decide +kernel
theorem dX5_takeFixed_57 : decode cX5_takeFixed 57 = .ok (.getfield 49, 3) := by decide +kernel
theorem dX5_takeFixed_60 : decode cX5_takeFixed 60 = .ok (.iload_n 2, 1) := by decide +kernel
theorem dX5_takeFixed_61 : decode cX5_takeFixed 61 = .ok (.invokevirtual 84, 3) := by decide +kernel
theorem dX5_takeFixed_64 : decode cX5_takeFixed 64 = .ok (.ifCond .eq 13, 3) := by decide +kernel
theorem dX5_takeFixed_67 : decode cX5_takeFixed 67 = .ok (.aload_n 0, 1) := by decide +kernel
theorem dX5_takeFixed_68 : decode cX5_takeFixed 68 = .ok (.getfield 22, 3) := by decide +kernel
theorem dX5_takeFixed_71 : decode cX5_takeFixed 71 = .ok (.iload_n 2, 1) := by decide +kernel
theorem dX5_takeFixed_72 : decode cX5_takeFixed 72 = .ok (.iconst 1, 1) := by decide +kernel
theorem dX5_takeFixed_73 : decode cX5_takeFixed 73 = .ok (.bastore, 1) := by decide +kernel
theorem dX5_takeFixed_74 : decode cX5_takeFixed 74 = .ok (.goto 31, 3) := by decide +kernel
theorem dX5_takeFixed_77 : decode cX5_takeFixed 77 = .ok (.aload_n 0, 1) := by decide +kernel
theorem dX5_takeFixed_78 : decode cX5_takeFixed 78 = .ok (.getfield 15, 3) := by decide +kernel
theorem dX5_takeFixed_81 : decode cX5_takeFixed 81 = .ok (.iconst 4, 1) := by decide +kernel
theorem dX5_takeFixed_82 : decode cX5_takeFixed 82 = .ok (.if_icmp .ge 23, 3) := by decide +kernel
theorem dX5_takeFixed_85 : decode cX5_takeFixed 85 = .ok (.aload_n 0, 1) := by decide +kernel
theorem dX5_takeFixed_86 : decode cX5_takeFixed 86 = .ok (.getfield 9, 3) := by decide +kernel
theorem dX5_takeFixed_89 : decode cX5_takeFixed 89 = .ok (.aload_n 0, 1) := by decide +kernel
theorem dX5_takeFixed_90 : decode cX5_takeFixed 90 = .ok (.getfield 15, 3) := by decide +kernel
theorem dX5_takeFixed_93 : decode cX5_takeFixed 93 = .ok (.iload_n 1, 1) := by decide +kernel
theorem dX5_takeFixed_94 : decode cX5_takeFixed 94 = .ok (.iastore, 1) := by decide +kernel
theorem dX5_takeFixed_95 : decode cX5_takeFixed 95 = .ok (.aload_n 0, 1) := by decide +kernel
theorem dX5_takeFixed_96 : decode cX5_takeFixed 96 = .ok (.dup, 1) := by decide +kernel
theorem dX5_takeFixed_97 : decode cX5_takeFixed 97 = .ok (.getfield 15, 3) := by decide +kernel
theorem dX5_takeFixed_100 : decode cX5_takeFixed 100 = .ok (.iconst 1, 1) := by decide +kernel
theorem dX5_takeFixed_101 : decode cX5_takeFixed 101 = .ok (.iadd, 1) := by decide +kernel
theorem dX5_takeFixed_102 : decode cX5_takeFixed 102 = .ok (.putfield 15, 3) := by decide +kernel
theorem dX5_takeFixed_105 : decode cX5_takeFixed 105 = .ok (.iinc 1 1, 3) := by decide +kernel
theorem dX5_takeFixed_108 : decode cX5_takeFixed 108 = .ok (.goto (-80), 3) := by decide +kernel
theorem dX5_takeFixed_111 : decode cX5_takeFixed 111 = .ok (.return_, 1) := by decide +kernel
theorem dX5_groupAddresses_0 : decode cX5_groupAddresses 0 = .ok (.iconst 0, 1) := by decide +kernel
theorem dX5_groupAddresses_1 : decode cX5_groupAddresses 1 = .ok (.istore_n 1, 1) := by decide +kernel
theorem dX5_groupAddresses_2 : decode cX5_groupAddresses 2 = .ok (.iload_n 1, 1) := by decide +kernel
theorem dX5_groupAddresses_3 : decode cX5_groupAddresses 3 = .ok (.bipush 24, 2) := by decide +kernel
theorem dX5_groupAddresses_5 : decode cX5_groupAddresses 5 = .ok (.if_icmp .ge 16, 3) := by decide +kernel
theorem dX5_groupAddresses_8 : decode cX5_groupAddresses 8 = .ok (.aload_n 0, 1) := by decide +kernel
theorem dX5_groupAddresses_9 : decode cX5_groupAddresses 9 = .ok (.getfield 29, 3) := by decide +kernel
theorem dX5_groupAddresses_12 : decode cX5_groupAddresses 12 = .ok (.iload_n 1, 1) := by decide +kernel
theorem dX5_groupAddresses_13 : decode cX5_groupAddresses 13 = .ok (.iconst 0, 1) := by decide +kernel
theorem dX5_groupAddresses_14 : decode cX5_groupAddresses 14 = .ok (.iastore, 1) := by decide +kernel
theorem dX5_groupAddresses_15 : decode cX5_groupAddresses 15 = .ok (.iinc 1 1, 3) := by decide +kernel
theorem dX5_groupAddresses_18 : decode cX5_groupAddresses 18 = .ok (.goto (-16), 3) := by decide +kernel
theorem dX5_groupAddresses_21 : decode cX5_groupAddresses 21 = .ok (.iconst 0, 1) := by decide +kernel
theorem dX5_groupAddresses_22 : decode cX5_groupAddresses 22 = .ok (.istore_n 1, 1) := by decide +kernel
theorem dX5_groupAddresses_23 : decode cX5_groupAddresses 23 = .ok (.iload_n 1, 1) := by decide +kernel
theorem dX5_groupAddresses_24 : decode cX5_groupAddresses 24 = .ok (.aload_n 0, 1) := by decide +kernel
theorem dX5_groupAddresses_25 : decode cX5_groupAddresses 25 = .ok (.getfield 49, 3) := by decide +kernel
theorem dX5_groupAddresses_28 : decode cX5_groupAddresses 28 = .ok (.invokevirtual 88, 3) := by decide +kernel
theorem dX5_groupAddresses_31 : decode cX5_groupAddresses 31 = .ok (.if_icmp .ge 86, 3) := by decide +kernel
theorem dX5_groupAddresses_34 : decode cX5_groupAddresses 34 = .ok (.aload_n 0, 1) := by decide +kernel
theorem dX5_groupAddresses_35 : decode cX5_groupAddresses 35 = .ok (.getfield 53, 3) := by decide +kernel
theorem dX5_groupAddresses_38 : decode cX5_groupAddresses 38 = .ok (.iload_n 1, 1) := by decide +kernel
theorem dX5_groupAddresses_39 : decode cX5_groupAddresses 39 = .ok (.aload_n 0, 1) := by decide +kernel
theorem dX5_groupAddresses_40 : decode cX5_groupAddresses 40 = .ok (.getfield 49, 3) := by decide +kernel
theorem dX5_groupAddresses_43 : decode cX5_groupAddresses 43 = .ok (.getfield 63, 3) := by decide +kernel
theorem dX5_groupAddresses_46 : decode cX5_groupAddresses 46 = .ok (.invokevirtual 92, 3) := by decide +kernel
theorem dX5_groupAddresses_49 : decode cX5_groupAddresses 49 = .ok (.istore_n 2, 1) := by decide +kernel
theorem dX5_groupAddresses_50 : decode cX5_groupAddresses 50 = .ok (.iload_n 2, 1) := by decide +kernel
theorem dX5_groupAddresses_51 : decode cX5_groupAddresses 51 = .ok (.ifCond .le 9, 3) := by decide +kernel
theorem dX5_groupAddresses_54 : decode cX5_groupAddresses 54 = .ok (.iload_n 1, 1) := by decide +kernel
theorem dX5_groupAddresses_55 : decode cX5_groupAddresses 55 = .ok (.iload_n 2, 1) := by decide +kernel
theorem dX5_groupAddresses_56 : decode cX5_groupAddresses 56 = .ok (.irem, 1) := by decide +kernel
theorem dX5_groupAddresses_57 : decode cX5_groupAddresses 57 = .ok (.goto 4, 3) := by decide +kernel
theorem dX5_groupAddresses_60 : decode cX5_groupAddresses 60 = .ok (.iconst 0, 1) := by decide +kernel
theorem dX5_groupAddresses_61 : decode cX5_groupAddresses 61 = .ok (.istore_n 3, 1) := by decide +kernel
theorem dX5_groupAddresses_62 : decode cX5_groupAddresses 62 = .ok (.aload_n 0, 1) := by decide +kernel
theorem dX5_groupAddresses_63 : decode cX5_groupAddresses 63 = .ok (.getfield 26, 3) := by decide +kernel
theorem dX5_groupAddresses_66 : decode cX5_groupAddresses 66 = .ok (.iload_n 1, 1) := by decide +kernel
theorem dX5_groupAddresses_67 : decode cX5_groupAddresses 67 = .ok (.iload_n 2, 1) := by decide +kernel
theorem dX5_groupAddresses_68 : decode cX5_groupAddresses 68 = .ok (.aload_n 0, 1) := by decide +kernel
theorem dX5_groupAddresses_69 : decode cX5_groupAddresses 69 = .ok (.getfield 49, 3) := by decide +kernel
theorem dX5_groupAddresses_72 : decode cX5_groupAddresses 72 = .ok (.getfield 96, 3) := by decide +kernel
theorem dX5_groupAddresses_75 : decode cX5_groupAddresses 75 = .ok (.if_icmp .ne 7, 3) := by decide +kernel
theorem dX5_groupAddresses_78 : decode cX5_groupAddresses 78 = .ok (.iload_n 3, 1) := by decide +kernel
theorem dX5_groupAddresses_79 : decode cX5_groupAddresses 79 = .ok (.goto 7, 3) := by decide +kernel
theorem dX5_groupAddresses_82 : decode cX5_groupAddresses 82 = .ok (.bipush 12, 2) := by decide +kernel
theorem dX5_groupAddresses_84 : decode cX5_groupAddresses 84 = .ok (.iload_n 3, 1) := by decide +kernel
theorem dX5_groupAddresses_85 : decode cX5_groupAddresses 85 = .ok (.iadd, 1) := by decide +kernel
theorem dX5_groupAddresses_86 : decode cX5_groupAddresses 86 = .ok (.iastore, 1) := by decide +kernel
theorem dX5_groupAddresses_87 : decode cX5_groupAddresses 87 = .ok (.aload_n 0, 1) := by decide +kernel
theorem dX5_groupAddresses_88 : decode cX5_groupAddresses 88 = .ok (.getfield 22, 3) := by decide +kernel
theorem dX5_groupAddresses_91 : decode cX5_groupAddresses 91 = .ok (.iload_n 1, 1) := by decide +kernel
theorem dX5_groupAddresses_92 : decode cX5_groupAddresses 92 = .ok (.baload, 1) := by decide +kernel
theorem dX5_groupAddresses_93 : decode cX5_groupAddresses 93 = .ok (.ifCond .ne 18, 3) := by decide +kernel
theorem dX5_groupAddresses_96 : decode cX5_groupAddresses 96 = .ok (.aload_n 0, 1) := by decide +kernel
theorem dX5_groupAddresses_97 : decode cX5_groupAddresses 97 = .ok (.getfield 29, 3) := by decide +kernel
theorem dX5_groupAddresses_100 : decode cX5_groupAddresses 100 = .ok (.aload_n 0, 1) := by decide +kernel
theorem dX5_groupAddresses_101 : decode cX5_groupAddresses 101 = .ok (.getfield 26, 3) := by decide +kernel
theorem dX5_groupAddresses_104 : decode cX5_groupAddresses 104 = .ok (.iload_n 1, 1) := by decide +kernel
theorem dX5_groupAddresses_105 : decode cX5_groupAddresses 105 = .ok (.iaload, 1) := by decide +kernel
theorem dX5_groupAddresses_106 : decode cX5_groupAddresses 106 = .ok (.dup2, 1) := by decide +kernel
theorem dX5_groupAddresses_107 : decode cX5_groupAddresses 107 = .ok (.iaload, 1) := by decide +kernel
theorem dX5_groupAddresses_108 : decode cX5_groupAddresses 108 = .ok (.iconst 1, 1) := by decide +kernel
theorem dX5_groupAddresses_109 : decode cX5_groupAddresses 109 = .ok (.iadd, 1) := by decide +kernel
theorem dX5_groupAddresses_110 : decode cX5_groupAddresses 110 = .ok (.iastore, 1) := by decide +kernel
theorem dX5_groupAddresses_111 : decode cX5_groupAddresses 111 = .ok (.iinc 1 1, 3) := by decide +kernel
theorem dX5_groupAddresses_114 : decode cX5_groupAddresses 114 = .ok (.goto (-91), 3) := by decide +kernel
theorem dX5_groupAddresses_117 : decode cX5_groupAddresses 117 = .ok (.return_, 1) := by decide +kernel
theorem dX5_layLoose_0 : decode cX5_layLoose 0 = .ok (.iload_n 1, 1) := by decide +kernel
theorem dX5_layLoose_1 : decode cX5_layLoose 1 = .ok (.aload_n 0, 1) := by decide +kernel
theorem dX5_layLoose_2 : decode cX5_layLoose 2 = .ok (.getfield 15, 3) := by decide +kernel
theorem dX5_layLoose_5 : decode cX5_layLoose 5 = .ok (.if_icmp .ge 8, 3) := by decide +kernel
theorem dX5_layLoose_8 : decode cX5_layLoose 8 = .ok (.iload_n 1, 1) := by decide +kernel
theorem dX5_layLoose_9 : decode cX5_layLoose 9 = .ok (.iconst 4, 1) := by decide +kernel
theorem dX5_layLoose_10 : decode cX5_layLoose 10 = .ok (.if_icmp .lt 9, 3) := by decide +kernel
theorem dX5_layLoose_13 : decode cX5_layLoose 13 = .ok (.aload_n 0, 1) := by decide +kernel
theorem dX5_layLoose_14 : decode cX5_layLoose 14 = .ok (.lload_n 2, 1) := by decide +kernel
theorem dX5_layLoose_15 : decode cX5_layLoose 15 = .ok (.invokevirtual 99, 3) := by decide +kernel
theorem dX5_layLoose_18 : decode cX5_layLoose 18 = .ok (.return_, 1) := by decide +kernel
theorem dX5_layLoose_19 : decode cX5_layLoose 19 = .ok (.aload_n 0, 1) := by decide +kernel
theorem dX5_layLoose_20 : decode cX5_layLoose 20 = .ok (.getfield 9, 3) := by decide +kernel
theorem dX5_layLoose_23 : decode cX5_layLoose 23 = .ok (.iload_n 1, 1) := by decide +kernel
theorem dX5_layLoose_24 : decode cX5_layLoose 24 = .ok (.iaload, 1) := by decide +kernel
theorem dX5_layLoose_25 : decode cX5_layLoose 25 = .ok (.istore 4, 2) := by decide +kernel
theorem dX5_layLoose_27 : decode cX5_layLoose 27 = .ok (.iconst 0, 1) := by decide +kernel
theorem dX5_layLoose_28 : decode cX5_layLoose 28 = .ok (.istore 5, 2) := by decide +kernel
theorem dX5_layLoose_30 : decode cX5_layLoose 30 = .ok (.iconst 0, 1) := by decide +kernel
theorem dX5_layLoose_31 : decode cX5_layLoose 31 = .ok (.istore 6, 2) := by decide +kernel
theorem dX5_layLoose_33 : decode cX5_layLoose 33 = .ok (.iload 6, 2) := by decide +kernel
theorem dX5_layLoose_35 : decode cX5_layLoose 35 = .ok (.aload_n 0, 1) := by decide +kernel
theorem dX5_layLoose_36 : decode cX5_layLoose 36 = .ok (.getfield 49, 3) := by decide +kernel
theorem dX5_layLoose_39 : decode cX5_layLoose 39 = .ok (.invokevirtual 88, 3) := by decide +kernel
theorem dX5_layLoose_42 : decode cX5_layLoose 42 = .ok (.if_icmp .ge 134, 3) := by decide +kernel
theorem dX5_layLoose_45 : decode cX5_layLoose 45 = .ok (.aload_n 0, 1) := by decide +kernel
theorem dX5_layLoose_46 : decode cX5_layLoose 46 = .ok (.getfield 26, 3) := by decide +kernel
theorem dX5_layLoose_49 : decode cX5_layLoose 49 = .ok (.iload 6, 2) := by decide +kernel
theorem dX5_layLoose_51 : decode cX5_layLoose 51 = .ok (.iaload, 1) := by decide +kernel
theorem dX5_layLoose_52 : decode cX5_layLoose 52 = .ok (.istore 7, 2) := by decide +kernel
theorem dX5_layLoose_54 : decode cX5_layLoose 54 = .ok (.aload_n 0, 1) := by decide +kernel
theorem dX5_layLoose_55 : decode cX5_layLoose 55 = .ok (.getfield 22, 3) := by decide +kernel
theorem dX5_layLoose_58 : decode cX5_layLoose 58 = .ok (.iload 6, 2) := by decide +kernel
theorem dX5_layLoose_60 : decode cX5_layLoose 60 = .ok (.baload, 1) := by decide +kernel
theorem dX5_layLoose_61 : decode cX5_layLoose 61 = .ok (.ifCond .ne 109, 3) := by decide +kernel
theorem dX5_layLoose_64 : decode cX5_layLoose 64 = .ok (.iload 5, 2) := by decide +kernel
theorem dX5_layLoose_66 : decode cX5_layLoose 66 = .ok (.iload 7, 2) := by decide +kernel
theorem dX5_layLoose_68 : decode cX5_layLoose 68 = .ok (.ishr, 1) := by decide +kernel
theorem dX5_layLoose_69 : decode cX5_layLoose 69 = .ok (.iconst 1, 1) := by decide +kernel
theorem dX5_layLoose_70 : decode cX5_layLoose 70 = .ok (.iand, 1) := by decide +kernel
theorem dX5_layLoose_71 : decode cX5_layLoose 71 = .ok (.ifCond .eq 6, 3) := by decide +kernel
theorem dX5_layLoose_74 : decode cX5_layLoose 74 = .ok (.goto 96, 3) := by decide +kernel
theorem dX5_layLoose_77 : decode cX5_layLoose 77 = .ok (.iload 5, 2) := by decide +kernel
theorem dX5_layLoose_79 : decode cX5_layLoose 79 = .ok (.iconst 1, 1) := by decide +kernel
theorem dX5_layLoose_80 : decode cX5_layLoose 80 = .ok (.iload 7, 2) := by decide +kernel
theorem dX5_layLoose_82 : decode cX5_layLoose 82 = .ok (.ishl, 1) := by decide +kernel
theorem dX5_layLoose_83 : decode cX5_layLoose 83 = .ok (.ior, 1) := by decide +kernel
theorem dX5_layLoose_84 : decode cX5_layLoose 84 = .ok (.istore 5, 2) := by decide +kernel
theorem dX5_layLoose_86 : decode cX5_layLoose 86 = .ok (.aload_n 0, 1) := by decide +kernel
theorem dX5_layLoose_87 : decode cX5_layLoose 87 = .ok (.getfield 29, 3) := by decide +kernel
theorem dX5_layLoose_90 : decode cX5_layLoose 90 = .ok (.iload 7, 2) := by decide +kernel
theorem dX5_layLoose_92 : decode cX5_layLoose 92 = .ok (.iaload, 1) := by decide +kernel
theorem dX5_layLoose_93 : decode cX5_layLoose 93 = .ok (.istore 8, 2) := by decide +kernel
theorem dX5_layLoose_95 : decode cX5_layLoose 95 = .ok (.aload_n 0, 1) := by decide +kernel
theorem dX5_layLoose_96 : decode cX5_layLoose 96 = .ok (.getfield 22, 3) := by decide +kernel
theorem dX5_layLoose_99 : decode cX5_layLoose 99 = .ok (.iload 6, 2) := by decide +kernel
theorem dX5_layLoose_101 : decode cX5_layLoose 101 = .ok (.iconst 1, 1) := by decide +kernel
theorem dX5_layLoose_102 : decode cX5_layLoose 102 = .ok (.bastore, 1) := by decide +kernel
theorem dX5_layLoose_103 : decode cX5_layLoose 103 = .ok (.aload_n 0, 1) := by decide +kernel
theorem dX5_layLoose_104 : decode cX5_layLoose 104 = .ok (.getfield 29, 3) := by decide +kernel
theorem dX5_layLoose_107 : decode cX5_layLoose 107 = .ok (.iload 7, 2) := by decide +kernel
theorem dX5_layLoose_109 : decode cX5_layLoose 109 = .ok (.iload 8, 2) := by decide +kernel
theorem dX5_layLoose_111 : decode cX5_layLoose 111 = .ok (.iconst 1, 1) := by decide +kernel
theorem dX5_layLoose_112 : decode cX5_layLoose 112 = .ok (.isub, 1) := by decide +kernel
theorem dX5_layLoose_113 : decode cX5_layLoose 113 = .ok (.iastore, 1) := by decide +kernel
theorem dX5_layLoose_114 : decode cX5_layLoose 114 = .ok (.aload_n 0, 1) := by decide +kernel
theorem dX5_layLoose_115 : decode cX5_layLoose 115 = .ok (.getfield 19, 3) := by decide +kernel
theorem dX5_layLoose_118 : decode cX5_layLoose 118 = .ok (.iload 4, 2) := by decide +kernel
theorem dX5_layLoose_120 : decode cX5_layLoose 120 = .ok (.iload 6, 2) := by decide +kernel
theorem dX5_layLoose_122 : decode cX5_layLoose 122 = .ok (.iastore, 1) := by decide +kernel
theorem dX5_layLoose_123 : decode cX5_layLoose 123 = .ok (.aload_n 0, 1) := by decide +kernel
theorem dX5_layLoose_124 : decode cX5_layLoose 124 = .ok (.getfield 53, 3) := by decide +kernel
theorem dX5_layLoose_127 : decode cX5_layLoose 127 = .ok (.iload 4, 2) := by decide +kernel
theorem dX5_layLoose_129 : decode cX5_layLoose 129 = .ok (.iload 6, 2) := by decide +kernel
theorem dX5_layLoose_131 : decode cX5_layLoose 131 = .ok (.aload_n 0, 1) := by decide +kernel
theorem dX5_layLoose_132 : decode cX5_layLoose 132 = .ok (.getfield 49, 3) := by decide +kernel
theorem dX5_layLoose_135 : decode cX5_layLoose 135 = .ok (.getfield 63, 3) := by decide +kernel
theorem dX5_layLoose_138 : decode cX5_layLoose 138 = .ok (.invokevirtual 103, 3) := by decide +kernel
theorem dX5_layLoose_141 : decode cX5_layLoose 141 = .ok (.aload_n 0, 1) := by decide +kernel
theorem dX5_layLoose_142 : decode cX5_layLoose 142 = .ok (.iload_n 1, 1) := by decide +kernel
theorem dX5_layLoose_143 : decode cX5_layLoose 143 = .ok (.iconst 1, 1) := by decide +kernel
theorem dX5_layLoose_144 : decode cX5_layLoose 144 = .ok (.iadd, 1) := by decide +kernel
theorem dX5_layLoose_145 : decode cX5_layLoose 145 = .ok (.lload_n 2, 1) := by decide +kernel
theorem dX5_layLoose_146 : decode cX5_layLoose 146 = .ok (.iload 8, 2) := by decide +kernel
theorem dX5_layLoose_148 : decode cX5_layLoose 148 = .ok (.i2l, 1) := by decide +kernel
theorem dX5_layLoose_149 : decode cX5_layLoose 149 = .ok (.lmul, 1) := by decide +kernel
theorem dX5_layLoose_150 : decode cX5_layLoose 150 = .ok (.invokevirtual 74, 3) := by decide +kernel
theorem dX5_layLoose_153 : decode cX5_layLoose 153 = .ok (.aload_n 0, 1) := by decide +kernel
theorem dX5_layLoose_154 : decode cX5_layLoose 154 = .ok (.getfield 29, 3) := by decide +kernel
theorem dX5_layLoose_157 : decode cX5_layLoose 157 = .ok (.iload 7, 2) := by decide +kernel
theorem dX5_layLoose_159 : decode cX5_layLoose 159 = .ok (.iload 8, 2) := by decide +kernel
theorem dX5_layLoose_161 : decode cX5_layLoose 161 = .ok (.iastore, 1) := by decide +kernel
theorem dX5_layLoose_162 : decode cX5_layLoose 162 = .ok (.aload_n 0, 1) := by decide +kernel
theorem dX5_layLoose_163 : decode cX5_layLoose 163 = .ok (.getfield 22, 3) := by decide +kernel
theorem dX5_layLoose_166 : decode cX5_layLoose 166 = .ok (.iload 6, 2) := by decide +kernel
theorem dX5_layLoose_168 : decode cX5_layLoose 168 = .ok (.iconst 0, 1) := by decide +kernel
theorem dX5_layLoose_169 : decode cX5_layLoose 169 = .ok (.bastore, 1) := by decide +kernel
theorem dX5_layLoose_170 : decode cX5_layLoose 170 = .ok (.iinc 6 1, 3) := by decide +kernel
theorem dX5_layLoose_173 : decode cX5_layLoose 173 = .ok (.goto (-140), 3) := by decide +kernel
theorem dX5_layLoose_176 : decode cX5_layLoose 176 = .ok (.return_, 1) := by decide +kernel
theorem dX5_judge_0 : decode cX5_judge 0 = .ok (.aload_n 0, 1) := by decide +kernel
theorem dX5_judge_1 : decode cX5_judge 1 = .ok (.getfield 53, 3) := by decide +kernel
theorem dX5_judge_4 : decode cX5_judge 4 = .ok (.aload_n 0, 1) := by decide +kernel
theorem dX5_judge_5 : decode cX5_judge 5 = .ok (.getfield 49, 3) := by decide +kernel
theorem dX5_judge_8 : decode cX5_judge 8 = .ok (.getfield 107, 3) := by decide +kernel
theorem dX5_judge_11 : decode cX5_judge 11 = .ok (.iconst 0, 1) := by decide +kernel
theorem dX5_judge_12 : decode cX5_judge 12 = .ok (.invokevirtual 110, 3) := by decide +kernel
theorem dX5_judge_15 : decode cX5_judge 15 = .ok (.istore_n 3, 1) := by decide +kernel
theorem dX5_judge_16 : decode cX5_judge 16 = .ok (.aload_n 0, 1) := by decide +kernel
theorem dX5_judge_17 : decode cX5_judge 17 = .ok (.aload_n 0, 1) := by decide +kernel
theorem dX5_judge_18 : decode cX5_judge 18 = .ok (.getfield 39, 3) := by decide +kernel
theorem dX5_judge_21 : decode cX5_judge 21 = .ok (.iload_n 3, 1) := by decide +kernel
theorem dX5_judge_22 : decode cX5_judge 22 = .ok (.invokestatic 114, 3) := by decide +kernel
theorem dX5_judge_25 : decode cX5_judge 25 = .ok (.putfield 39, 3) := by decide +kernel
theorem dX5_judge_28 : decode cX5_judge 28 = .ok (.aload_n 0, 1) := by decide +kernel
theorem dX5_judge_29 : decode cX5_judge 29 = .ok (.getfield 36, 3) := by decide +kernel
theorem dX5_judge_32 : decode cX5_judge 32 = .ok (.iconst (-1), 1) := by decide +kernel
theorem dX5_judge_33 : decode cX5_judge 33 = .ok (.if_icmp .eq 11, 3) := by decide +kernel
theorem dX5_judge_36 : decode cX5_judge 36 = .ok (.iload_n 3, 1) := by decide +kernel
theorem dX5_judge_37 : decode cX5_judge 37 = .ok (.aload_n 0, 1) := by decide +kernel
theorem dX5_judge_38 : decode cX5_judge 38 = .ok (.getfield 36, 3) := by decide +kernel
theorem dX5_judge_41 : decode cX5_judge 41 = .ok (.if_icmp .ge 24, 3) := by decide +kernel
theorem dX5_judge_44 : decode cX5_judge 44 = .ok (.aload_n 0, 1) := by decide +kernel
theorem dX5_judge_45 : decode cX5_judge 45 = .ok (.iload_n 3, 1) := by decide +kernel
theorem dX5_judge_46 : decode cX5_judge 46 = .ok (.putfield 36, 3) := by decide +kernel
theorem dX5_judge_49 : decode cX5_judge 49 = .ok (.aload_n 0, 1) := by decide +kernel
theorem dX5_judge_50 : decode cX5_judge 50 = .ok (.lconst 0, 1) := by decide +kernel
theorem dX5_judge_51 : decode cX5_judge 51 = .ok (.putfield 42, 3) := by decide +kernel
theorem dX5_judge_54 : decode cX5_judge 54 = .ok (.aload_n 0, 1) := by decide +kernel
theorem dX5_judge_55 : decode cX5_judge 55 = .ok (.getfield 19, 3) := by decide +kernel
theorem dX5_judge_58 : decode cX5_judge 58 = .ok (.aload_n 0, 1) := by decide +kernel
theorem dX5_judge_59 : decode cX5_judge 59 = .ok (.getfield 46, 3) := by decide +kernel
theorem dX5_judge_62 : decode cX5_judge 62 = .ok (.invokestatic 119, 3) := by decide +kernel
theorem dX5_judge_65 : decode cX5_judge 65 = .ok (.iload_n 3, 1) := by decide +kernel
theorem dX5_judge_66 : decode cX5_judge 66 = .ok (.aload_n 0, 1) := by decide +kernel
theorem dX5_judge_67 : decode cX5_judge 67 = .ok (.getfield 36, 3) := by decide +kernel
theorem dX5_judge_70 : decode cX5_judge 70 = .ok (.if_icmp .ne 13, 3) := by decide +kernel
theorem dX5_judge_73 : decode cX5_judge 73 = .ok (.aload_n 0, 1) := by decide +kernel
theorem dX5_judge_74 : decode cX5_judge 74 = .ok (.dup, 1) := by decide +kernel
theorem dX5_judge_75 : decode cX5_judge 75 = .ok (.getfield 42, 3) := by decide +kernel
theorem dX5_judge_78 : decode cX5_judge 78 = .ok (.lload_n 1, 1) := by decide +kernel
theorem dX5_judge_79 : decode cX5_judge 79 = .ok (.ladd, 1) := by decide +kernel
theorem dX5_judge_80 : decode cX5_judge 80 = .ok (.putfield 42, 3) := by decide +kernel
theorem dX5_judge_83 : decode cX5_judge 83 = .ok (.return_, 1) := by decide +kernel
theorem dX6_init_0 : decode cX6_init 0 = .ok (.aload_n 0, 1) := by decide +kernel
theorem dX6_init_1 : decode cX6_init 1 = .ok (.invokespecial 3, 3) := by decide +kernel
theorem dX6_init_4 : decode cX6_init 4 = .ok (.aload_n 0, 1) := by decide +kernel
theorem dX6_init_5 : decode cX6_init 5 = .ok (.sipush 700, 3) := by decide +kernel
theorem dX6_init_8 : decode cX6_init 8 = .ok (.newarray .int, 2) := by decide +kernel
theorem dX6_init_10 : decode cX6_init 10 = .ok (.putfield 9, 3) := by decide +kernel
theorem dX6_init_13 : decode cX6_init 13 = .ok (.aload_n 0, 1) := by decide +kernel
theorem dX6_init_14 : decode cX6_init 14 = .ok (.iconst 0, 1) := by decide +kernel
theorem dX6_init_15 : decode cX6_init 15 = .ok (.putfield 15, 3) := by decide +kernel
theorem dX6_init_18 : decode cX6_init 18 = .ok (.return_, 1) := by decide +kernel
theorem dX6_append_0 : decode cX6_append 0 = .ok (.bipush 24, 2) := by decide +kernel
theorem dX6_append_2 : decode cX6_append 2 = .ok (.istore_n 2, 1) := by decide +kernel
theorem dX6_append_3 : decode cX6_append 3 = .ok (.iload_n 2, 1) := by decide +kernel
theorem dX6_append_4 : decode cX6_append 4 = .ok (.ifCond .lt 45, 3) := by decide +kernel
theorem dX6_append_7 : decode cX6_append 7 = .ok (.aload_n 0, 1) := by decide +kernel
theorem dX6_append_8 : decode cX6_append 8 = .ok (.getfield 15, 3) := by decide +kernel
theorem dX6_append_11 : decode cX6_append 11 = .ok (.sipush 700, 3) := by decide +kernel
theorem dX6_append_14 : decode cX6_append 14 = .ok (.if_icmp .ge 35, 3) := by decide +kernel
theorem dX6_append_17 : decode cX6_append 17 = .ok (.aload_n 0, 1) := by decide +kernel
theorem dX6_append_18 : decode cX6_append 18 = .ok (.getfield 9, 3) := by decide +kernel
theorem dX6_append_21 : decode cX6_append 21 = .ok (.aload_n 0, 1) := by decide +kernel
theorem dX6_append_22 : decode cX6_append 22 = .ok (.getfield 15, 3) := by decide +kernel
theorem dX6_append_25 : decode cX6_append 25 = .ok (.iload_n 1, 1) := by decide +kernel
theorem dX6_append_26 : decode cX6_append 26 = .ok (.iload_n 2, 1) := by decide +kernel
theorem dX6_append_27 : decode cX6_append 27 = .ok (.iushr, 1) := by decide +kernel
theorem dX6_append_28 : decode cX6_append 28 = .ok (.sipush 255, 3) := by decide +kernel
theorem dX6_append_31 : decode cX6_append 31 = .ok (.iand, 1) := by decide +kernel
theorem dX6_append_32 : decode cX6_append 32 = .ok (.iastore, 1) := by decide +kernel
theorem dX6_append_33 : decode cX6_append 33 = .ok (.aload_n 0, 1) := by decide +kernel
theorem dX6_append_34 : decode cX6_append 34 = .ok (.dup, 1) := by decide +kernel
theorem dX6_append_35 : decode cX6_append 35 = .ok (.getfield 15, 3) := by decide +kernel
theorem dX6_append_38 : decode cX6_append 38 = .ok (.iconst 1, 1) := by decide +kernel
theorem dX6_append_39 : decode cX6_append 39 = .ok (.iadd, 1) := by decide +kernel
theorem dX6_append_40 : decode cX6_append 40 = .ok (.putfield 15, 3) := by decide +kernel
theorem dX6_append_43 : decode cX6_append 43 = .ok (.iinc 2 (-8), 3) := by decide +kernel
theorem dX6_append_46 : decode cX6_append 46 = .ok (.goto (-43), 3) := by decide +kernel
theorem dX6_append_49 : decode cX6_append 49 = .ok (.return_, 1) := by decide +kernel
theorem dX6_byteAt_0 : decode cX6_byteAt 0 = .ok (.iload_n 1, 1) := by decide +kernel
theorem dX6_byteAt_1 : decode cX6_byteAt 1 = .ok (.ifCond .lt 20, 3) := by decide +kernel
theorem dX6_byteAt_4 : decode cX6_byteAt 4 = .ok (.iload_n 1, 1) := by decide +kernel
theorem dX6_byteAt_5 : decode cX6_byteAt 5 = .ok (.aload_n 0, 1) := by decide +kernel
theorem dX6_byteAt_6 : decode cX6_byteAt 6 = .ok (.getfield 15, 3) := by decide +kernel
theorem dX6_byteAt_9 : decode cX6_byteAt 9 = .ok (.if_icmp .ge 12, 3) := by decide +kernel
theorem dX6_byteAt_12 : decode cX6_byteAt 12 = .ok (.aload_n 0, 1) := by decide +kernel
theorem dX6_byteAt_13 : decode cX6_byteAt 13 = .ok (.getfield 9, 3) := by decide +kernel
theorem dX6_byteAt_16 : decode cX6_byteAt 16 = .ok (.iload_n 1, 1) := by decide +kernel
theorem dX6_byteAt_17 : decode cX6_byteAt 17 = .ok (.iaload, 1) := by decide +kernel
theorem dX6_byteAt_18 : decode cX6_byteAt 18 = .ok (.goto 4, 3) := by decide +kernel
theorem dX6_byteAt_21 : decode cX6_byteAt 21 = .ok (.iconst (-1), 1) := by decide +kernel
theorem dX6_byteAt_22 : decode cX6_byteAt 22 = .ok (.ireturn, 1) := by decide +kernel
theorem dX7_init_0 : decode cX7_init 0 = .ok (.aload_n 0, 1) := by decide +kernel
theorem dX7_init_1 : decode cX7_init 1 = .ok (.invokespecial 3, 3) := by decide +kernel
theorem dX7_init_4 : decode cX7_init 4 = .ok (.aload_n 0, 1) := by decide +kernel
theorem dX7_init_5 : decode cX7_init 5 = .ok (.iconst 0, 1) := by decide +kernel
theorem dX7_init_6 : decode cX7_init 6 = .ok (.putfield 11, 3) := by decide +kernel
theorem dX7_init_9 : decode cX7_init 9 = .ok (.aload_n 0, 1) := by decide +kernel
theorem dX7_init_10 : decode cX7_init 10 = .ok (.iconst 0, 1) := by decide +kernel
theorem dX7_init_11 : decode cX7_init 11 = .ok (.putfield 15, 3) := by decide +kernel
theorem dX7_init_14 : decode cX7_init 14 = .ok (.aload_n 0, 1) := by decide +kernel
theorem dX7_init_15 : decode cX7_init 15 = .ok (.iconst 0, 1) := by decide +kernel
theorem dX7_init_16 : decode cX7_init 16 = .ok (.putfield 18, 3) := by decide +kernel
theorem dX7_init_19 : decode cX7_init 19 = .ok (.aload_n 0, 1) := by decide +kernel
theorem dX7_init_20 : decode cX7_init 20 = .ok (.iconst (-1), 1) := by decide +kernel
theorem dX7_init_21 : decode cX7_init 21 = .ok (.putfield 21, 3) := by decide +kernel
theorem dX7_init_24 : decode cX7_init 24 = .ok (.aload_n 0, 1) := by decide +kernel
theorem dX7_init_25 : decode cX7_init 25 = .ok (.iconst 0, 1) := by decide +kernel
theorem dX7_init_26 : decode cX7_init 26 = .ok (.putfield 24, 3) := by decide +kernel
theorem dX7_init_29 : decode cX7_init 29 = .ok (.aload_n 0, 1) := by decide +kernel
theorem dX7_init_30 : decode cX7_init 30 = .ok (.aload_n 1, 1) := by decide +kernel
theorem dX7_init_31 : decode cX7_init 31 = .ok (.putfield 27, 3) := by decide +kernel
theorem dX7_init_34 : decode cX7_init 34 = .ok (.return_, 1) := by decide +kernel
theorem dX7_begin_0 : decode cX7_begin 0 = .ok (.aload_n 0, 1) := by decide +kernel
theorem dX7_begin_1 : decode cX7_begin 1 = .ok (.iconst 0, 1) := by decide +kernel
theorem dX7_begin_2 : decode cX7_begin 2 = .ok (.putfield 24, 3) := by decide +kernel
theorem dX7_begin_5 : decode cX7_begin 5 = .ok (.aload_n 0, 1) := by decide +kernel
theorem dX7_begin_6 : decode cX7_begin 6 = .ok (.invokevirtual 31, 3) := by decide +kernel
theorem dX7_begin_9 : decode cX7_begin 9 = .ok (.return_, 1) := by decide +kernel
theorem dX7_advance_0 : decode cX7_advance 0 = .ok (.aload_n 0, 1) := by decide +kernel
theorem dX7_advance_1 : decode cX7_advance 1 = .ok (.invokevirtual 34, 3) := by decide +kernel
theorem dX7_advance_4 : decode cX7_advance 4 = .ok (.aload_n 0, 1) := by decide +kernel
theorem dX7_advance_5 : decode cX7_advance 5 = .ok (.aload_n 0, 1) := by decide +kernel
theorem dX7_advance_6 : decode cX7_advance 6 = .ok (.getfield 24, 3) := by decide +kernel
theorem dX7_advance_9 : decode cX7_advance 9 = .ok (.putfield 15, 3) := by decide +kernel
theorem dX7_advance_12 : decode cX7_advance 12 = .ok (.aload_n 0, 1) := by decide +kernel
theorem dX7_advance_13 : decode cX7_advance 13 = .ok (.getfield 27, 3) := by decide +kernel
theorem dX7_advance_16 : decode cX7_advance 16 = .ok (.aload_n 0, 1) := by decide +kernel
theorem dX7_advance_17 : decode cX7_advance 17 = .ok (.getfield 15, 3) := by decide +kernel
theorem dX7_advance_20 : decode cX7_advance 20 = .ok (.invokevirtual 37, 3) := by decide +kernel
theorem dX7_advance_23 : decode cX7_advance 23 = .ok (.istore_n 1, 1) := by decide +kernel
theorem dX7_advance_24 : decode cX7_advance 24 = .ok (.iload_n 1, 1) := by decide +kernel
theorem dX7_advance_25 : decode cX7_advance 25 = .ok (.iconst (-1), 1) := by decide +kernel
theorem dX7_advance_26 : decode cX7_advance 26 = .ok (.if_icmp .ne 11, 3) := by decide +kernel
theorem dX7_advance_29 : decode cX7_advance 29 = .ok (.aload_n 0, 1) := by decide +kernel
theorem dX7_advance_30 : decode cX7_advance 30 = .ok (.iconst 0, 1) := by decide +kernel
theorem dX7_advance_31 : decode cX7_advance 31 = .ok (.putfield 11, 3) := by decide +kernel
theorem dX7_advance_34 : decode cX7_advance 34 = .ok (.goto 76, 3) := by decide +kernel
theorem dX7_advance_37 : decode cX7_advance 37 = .ok (.iload_n 1, 1) := by decide +kernel
theorem dX7_advance_38 : decode cX7_advance 38 = .ok (.invokestatic 43, 3) := by decide +kernel
theorem dX7_advance_41 : decode cX7_advance 41 = .ok (.ifCond .eq 15, 3) := by decide +kernel
theorem dX7_advance_44 : decode cX7_advance 44 = .ok (.aload_n 0, 1) := by decide +kernel
theorem dX7_advance_45 : decode cX7_advance 45 = .ok (.iconst 1, 1) := by decide +kernel
theorem dX7_advance_46 : decode cX7_advance 46 = .ok (.putfield 11, 3) := by decide +kernel
theorem dX7_advance_49 : decode cX7_advance 49 = .ok (.aload_n 0, 1) := by decide +kernel
theorem dX7_advance_50 : decode cX7_advance 50 = .ok (.invokevirtual 47, 3) := by decide +kernel
theorem dX7_advance_53 : decode cX7_advance 53 = .ok (.goto 57, 3) := by decide +kernel
theorem dX7_advance_56 : decode cX7_advance 56 = .ok (.iload_n 1, 1) := by decide +kernel
theorem dX7_advance_57 : decode cX7_advance 57 = .ok (.invokestatic 50, 3) := by decide +kernel
theorem dX7_advance_60 : decode cX7_advance 60 = .ok (.ifCond .eq 15, 3) := by decide +kernel
theorem dX7_advance_63 : decode cX7_advance 63 = .ok (.aload_n 0, 1) := by decide +kernel
theorem dX7_advance_64 : decode cX7_advance 64 = .ok (.iconst 2, 1) := by decide +kernel
theorem dX7_advance_65 : decode cX7_advance 65 = .ok (.putfield 11, 3) := by decide +kernel
theorem dX7_advance_68 : decode cX7_advance 68 = .ok (.aload_n 0, 1) := by decide +kernel
theorem dX7_advance_69 : decode cX7_advance 69 = .ok (.invokevirtual 53, 3) := by decide +kernel
theorem dX7_advance_72 : decode cX7_advance 72 = .ok (.goto 38, 3) := by decide +kernel
theorem dX7_advance_75 : decode cX7_advance 75 = .ok (.aload_n 0, 1) := by decide +kernel
theorem dX7_advance_76 : decode cX7_advance 76 = .ok (.iload_n 1, 1) := by decide +kernel
theorem dX7_advance_77 : decode cX7_advance 77 = .ok (.bipush 59, 2) := by decide +kernel
theorem dX7_advance_79 : decode cX7_advance 79 = .ok (.if_icmp .ne 7, 3) := by decide +kernel
theorem dX7_advance_82 : decode cX7_advance 82 = .ok (.iconst 3, 1) := by decide +kernel
theorem dX7_advance_83 : decode cX7_advance 83 = .ok (.goto 14, 3) := by decide +kernel
theorem dX7_advance_86 : decode cX7_advance 86 = .ok (.iload_n 1, 1) := by decide +kernel
theorem dX7_advance_87 : decode cX7_advance 87 = .ok (.bipush 45, 2) := by decide +kernel
theorem dX7_advance_89 : decode cX7_advance 89 = .ok (.if_icmp .ne 7, 3) := by decide +kernel
theorem dX7_advance_92 : decode cX7_advance 92 = .ok (.iconst 4, 1) := by decide +kernel
theorem dX7_advance_93 : decode cX7_advance 93 = .ok (.goto 4, 3) := by decide +kernel
theorem dX7_advance_96 : decode cX7_advance 96 = .ok (.iconst 5, 1) := by decide +kernel
theorem dX7_advance_97 : decode cX7_advance 97 = .ok (.putfield 11, 3) := by decide +kernel
theorem dX7_advance_100 : decode cX7_advance 100 = .ok (.aload_n 0, 1) := by decide +kernel
theorem dX7_advance_101 : decode cX7_advance 101 = .ok (.aload_n 0, 1) := by decide +kernel
theorem dX7_advance_102 : decode cX7_advance 102 = .ok (.getfield 15, 3) := by decide +kernel
theorem dX7_advance_105 : decode cX7_advance 105 = .ok (.iconst 1, 1) := by decide +kernel
theorem dX7_advance_106 : decode cX7_advance 106 = .ok (.iadd, 1) := by decide +kernel
theorem dX7_advance_107 : decode cX7_advance 107 = .ok (.putfield 24, 3) := by decide +kernel
theorem dX7_advance_110 : decode cX7_advance 110 = .ok (.return_, 1) := by decide +kernel
theorem dX7_is_0 : decode cX7_is 0 = .ok (.aload_n 0, 1) := by decide +kernel
theorem dX7_is_1 : decode cX7_is 1 = .ok (.getfield 11, 3) := by decide +kernel
theorem dX7_is_4 : decode cX7_is 4 = .ok (.iconst 1, 1) := by decide +kernel
theorem dX7_is_5 : decode cX7_is 5 = .ok (.if_icmp .ne 19, 3) := by decide +kernel
theorem dX7_is_8 : decode cX7_is 8 = .ok (.aload_n 0, 1) := by decide +kernel
theorem dX7_is_9 : decode cX7_is 9 = .ok (.getfield 24, 3) := by decide +kernel
theorem dX7_is_12 : decode cX7_is 12 = .ok (.aload_n 0, 1) := by decide +kernel
theorem dX7_is_13 : decode cX7_is 13 = .ok (.getfield 15, 3) := by decide +kernel
theorem dX7_is_16 : decode cX7_is 16 = .ok (.isub, 1) := by decide +kernel
theorem dX7_is_17 : decode cX7_is 17 = .ok (.aload_n 1, 1) := by decide +kernel
theorem dX7_is_18 : decode cX7_is 18 = .ok (.invokevirtual 56, 3) := by decide +kernel
theorem dX7_is_21 : decode cX7_is 21 = .ok (.if_icmp .eq 5, 3) := by decide +kernel
theorem dX7_is_24 : decode cX7_is 24 = .ok (.iconst 0, 1) := by decide +kernel
theorem dX7_is_25 : decode cX7_is 25 = .ok (.ireturn, 1) := by decide +kernel
theorem dX7_is_26 : decode cX7_is 26 = .ok (.iconst 0, 1) := by decide +kernel
theorem dX7_is_27 : decode cX7_is 27 = .ok (.istore_n 2, 1) := by decide +kernel
theorem dX7_is_28 : decode cX7_is 28 = .ok (.iload_n 2, 1) := by decide +kernel
theorem dX7_is_29 : decode cX7_is 29 = .ok (.aload_n 1, 1) := by decide +kernel
theorem dX7_is_30 : decode cX7_is 30 = .ok (.invokevirtual 56, 3) := by decide +kernel
theorem dX7_is_33 : decode cX7_is 33 = .ok (.if_icmp .ge 32, 3) := by decide +kernel
theorem dX7_is_36 : decode cX7_is 36 = .ok (.aload_n 0, 1) := by decide +kernel
theorem dX7_is_37 : decode cX7_is 37 = .ok (.getfield 27, 3) := by decide +kernel
theorem dX7_is_40 : decode cX7_is 40 = .ok (.aload_n 0, 1) := by decide +kernel
theorem dX7_is_41 : decode cX7_is 41 = .ok (.getfield 15, 3) := by decide +kernel
theorem dX7_is_44 : decode cX7_is 44 = .ok (.iload_n 2, 1) := by decide +kernel
theorem dX7_is_45 : decode cX7_is 45 = .ok (.iadd, 1) := by decide +kernel
theorem dX7_is_46 : decode cX7_is 46 = .ok (.invokevirtual 37, 3) := by decide +kernel
theorem dX7_is_49 : decode cX7_is 49 = .ok (.aload_n 1, 1) := by decide +kernel
theorem dX7_is_50 : decode cX7_is 50 = .ok (.iload_n 2, 1) := by decide +kernel
theorem dX7_is_51 : decode cX7_is 51 = .ok (.invokevirtual 62, 3) := by decide +kernel
theorem dX7_is_54 : decode cX7_is 54 = .ok (.if_icmp .eq 5, 3) := by decide +kernel
theorem dX7_is_57 : decode cX7_is 57 = .ok (.iconst 0, 1) := by decide +kernel
theorem dX7_is_58 : decode cX7_is 58 = .ok (.ireturn, 1) := by decide +kernel
theorem dX7_is_59 : decode cX7_is 59 = .ok (.iinc 2 1, 3) := by decide +kernel
theorem dX7_is_62 : decode cX7_is 62 = .ok (.goto (-34), 3) := by decide +kernel
theorem dX7_is_65 : decode cX7_is 65 = .ok (.iconst 1, 1) := by decide +kernel
theorem dX7_is_66 : decode cX7_is 66 = .ok (.ireturn, 1) := by decide +kernel
theorem dX7_isLineWord_0 : decode cX7_isLineWord 0 = .ok (.aload_n 0, 1) := by decide +kernel
theorem dX7_isLineWord_1 : decode cX7_isLineWord 1 = .ok (.ldc 66, 2) := by decide +kernel
theorem dX7_isLineWord_3 : decode cX7_isLineWord 3 = .ok (.invokevirtual 68, 3) := by decide +kernel
theorem dX7_isLineWord_6 : decode cX7_isLineWord 6 = .ok (.ifCond .ne 30, 3) := by decide +kernel
theorem dX7_isLineWord_9 : decode cX7_isLineWord 9 = .ok (.aload_n 0, 1) := by decide +kernel
theorem dX7_isLineWord_10 : decode cX7_isLineWord 10 = .ok (.ldc 72, 2) := by decide +kernel
theorem dX7_isLineWord_12 : decode cX7_isLineWord 12 = .ok (.invokevirtual 68, 3) := by decide +kernel
theorem dX7_isLineWord_15 : decode cX7_isLineWord 15 = .ok (.ifCond .ne 21, 3) := by decide +kernel
theorem dX7_isLineWord_18 : decode cX7_isLineWord 18 = .ok (.aload_n 0, 1) := by decide +kernel
theorem dX7_isLineWord_19 : decode cX7_isLineWord 19 = .ok (.ldc 74, 2) := by decide +kernel
