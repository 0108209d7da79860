theorem dX10_next_40 : decode cX10_next 40 = .ok (.putfield 107, 3) := by decide +kernel
theorem dX10_next_43 : decode cX10_next 43 = .ok (.aload_n 0, 1) := by decide +kernel
theorem dX10_next_44 : decode cX10_next 44 = .ok (.iconst 0, 1) := by decide +kernel
theorem dX10_next_45 : decode cX10_next 45 = .ok (.putfield 110, 3) := by decide +kernel
theorem dX10_next_48 : decode cX10_next 48 = .ok (.aload_n 0, 1) := by decide +kernel
theorem dX10_next_49 : decode cX10_next 49 = .ok (.iconst (-1), 1) := by decide +kernel
theorem dX10_next_50 : decode cX10_next 50 = .ok (.putfield 113, 3) := by decide +kernel
theorem dX10_next_53 : decode cX10_next 53 = .ok (.aload_n 0, 1) := by decide +kernel
theorem dX10_next_54 : decode cX10_next 54 = .ok (.getfield 100, 3) := by decide +kernel
theorem dX10_next_57 : decode cX10_next 57 = .ok (.aload_n 0, 1) := by decide +kernel
theorem dX10_next_58 : decode cX10_next 58 = .ok (.getfield 93, 3) := by decide +kernel
theorem dX10_next_61 : decode cX10_next 61 = .ok (.if_icmp .ne 11, 3) := by decide +kernel
theorem dX10_next_64 : decode cX10_next 64 = .ok (.aload_n 0, 1) := by decide +kernel
theorem dX10_next_65 : decode cX10_next 65 = .ok (.iconst 0, 1) := by decide +kernel
theorem dX10_next_66 : decode cX10_next 66 = .ok (.putfield 116, 3) := by decide +kernel
theorem dX10_next_69 : decode cX10_next 69 = .ok (.goto 164, 3) := by decide +kernel
theorem dX10_next_72 : decode cX10_next 72 = .ok (.aload_n 0, 1) := by decide +kernel
theorem dX10_next_73 : decode cX10_next 73 = .ok (.bipush 97, 2) := by decide +kernel
theorem dX10_next_75 : decode cX10_next 75 = .ok (.bipush 122, 2) := by decide +kernel
theorem dX10_next_77 : decode cX10_next 77 = .ok (.invokevirtual 103, 3) := by decide +kernel
theorem dX10_next_80 : decode cX10_next 80 = .ok (.ifCond .eq 43, 3) := by decide +kernel
theorem dX10_next_83 : decode cX10_next 83 = .ok (.aload_n 0, 1) := by decide +kernel
theorem dX10_next_84 : decode cX10_next 84 = .ok (.iconst 1, 1) := by decide +kernel
theorem dX10_next_85 : decode cX10_next 85 = .ok (.putfield 116, 3) := by decide +kernel
theorem dX10_next_88 : decode cX10_next 88 = .ok (.aload_n 0, 1) := by decide +kernel
theorem dX10_next_89 : decode cX10_next 89 = .ok (.bipush 97, 2) := by decide +kernel
theorem dX10_next_91 : decode cX10_next 91 = .ok (.bipush 122, 2) := by decide +kernel
theorem dX10_next_93 : decode cX10_next 93 = .ok (.invokevirtual 103, 3) := by decide +kernel
theorem dX10_next_96 : decode cX10_next 96 = .ok (.ifCond .eq 16, 3) := by decide +kernel
theorem dX10_next_99 : decode cX10_next 99 = .ok (.aload_n 0, 1) := by decide +kernel
theorem dX10_next_100 : decode cX10_next 100 = .ok (.dup, 1) := by decide +kernel
theorem dX10_next_101 : decode cX10_next 101 = .ok (.getfield 100, 3) := by decide +kernel
theorem dX10_next_104 : decode cX10_next 104 = .ok (.iconst 1, 1) := by decide +kernel
theorem dX10_next_105 : decode cX10_next 105 = .ok (.iadd, 1) := by decide +kernel
theorem dX10_next_106 : decode cX10_next 106 = .ok (.putfield 100, 3) := by decide +kernel
theorem dX10_next_109 : decode cX10_next 109 = .ok (.goto (-21), 3) := by decide +kernel
theorem dX10_next_112 : decode cX10_next 112 = .ok (.aload_n 0, 1) := by decide +kernel
theorem dX10_next_113 : decode cX10_next 113 = .ok (.aload_n 0, 1) := by decide +kernel
theorem dX10_next_114 : decode cX10_next 114 = .ok (.invokevirtual 119, 3) := by decide +kernel
theorem dX10_next_117 : decode cX10_next 117 = .ok (.putfield 113, 3) := by decide +kernel
theorem dX10_next_120 : decode cX10_next 120 = .ok (.goto 113, 3) := by decide +kernel
theorem dX10_next_123 : decode cX10_next 123 = .ok (.aload_n 0, 1) := by decide +kernel
theorem dX10_next_124 : decode cX10_next 124 = .ok (.bipush 48, 2) := by decide +kernel
theorem dX10_next_126 : decode cX10_next 126 = .ok (.bipush 57, 2) := by decide +kernel
theorem dX10_next_128 : decode cX10_next 128 = .ok (.invokevirtual 103, 3) := by decide +kernel
theorem dX10_next_131 : decode cX10_next 131 = .ok (.ifCond .eq 61, 3) := by decide +kernel
theorem dX10_next_134 : decode cX10_next 134 = .ok (.aload_n 0, 1) := by decide +kernel
theorem dX10_next_135 : decode cX10_next 135 = .ok (.iconst 2, 1) := by decide +kernel
theorem dX10_next_136 : decode cX10_next 136 = .ok (.putfield 116, 3) := by decide +kernel
theorem dX10_next_139 : decode cX10_next 139 = .ok (.aload_n 0, 1) := by decide +kernel
theorem dX10_next_140 : decode cX10_next 140 = .ok (.bipush 48, 2) := by decide +kernel
theorem dX10_next_142 : decode cX10_next 142 = .ok (.bipush 57, 2) := by decide +kernel
theorem dX10_next_144 : decode cX10_next 144 = .ok (.invokevirtual 103, 3) := by decide +kernel
theorem dX10_next_147 : decode cX10_next 147 = .ok (.ifCond .eq 86, 3) := by decide +kernel
theorem dX10_next_150 : decode cX10_next 150 = .ok (.aload_n 0, 1) := by decide +kernel
theorem dX10_next_151 : decode cX10_next 151 = .ok (.ldc 123, 2) := by decide +kernel
theorem dX10_next_153 : decode cX10_next 153 = .ok (.bipush 10, 2) := by decide +kernel
theorem dX10_next_155 : decode cX10_next 155 = .ok (.aload_n 0, 1) := by decide +kernel
theorem dX10_next_156 : decode cX10_next 156 = .ok (.getfield 110, 3) := by decide +kernel
theorem dX10_next_159 : decode cX10_next 159 = .ok (.imul, 1) := by decide +kernel
theorem dX10_next_160 : decode cX10_next 160 = .ok (.aload_n 0, 1) := by decide +kernel
theorem dX10_next_161 : decode cX10_next 161 = .ok (.getfield 19, 3) := by decide +kernel
theorem dX10_next_164 : decode cX10_next 164 = .ok (.aload_n 0, 1) := by decide +kernel
theorem dX10_next_165 : decode cX10_next 165 = .ok (.getfield 100, 3) := by decide +kernel
theorem dX10_next_168 : decode cX10_next 168 = .ok (.iaload, 1) := by decide +kernel
theorem dX10_next_169 : decode cX10_next 169 = .ok (.iadd, 1) := by decide +kernel
theorem dX10_next_170 : decode cX10_next 170 = .ok (.bipush 48, 2) := by decide +kernel
theorem dX10_next_172 : decode cX10_next 172 = .ok (.isub, 1) := by decide +kernel
theorem dX10_next_173 : decode cX10_next 173 = .ok (.invokestatic 124, 3) := by decide +kernel
theorem dX10_next_176 : decode cX10_next 176 = .ok (.putfield 110, 3) := by decide +kernel
theorem dX10_next_179 : decode cX10_next 179 = .ok (.aload_n 0, 1) := by decide +kernel
theorem dX10_next_180 : decode cX10_next 180 = .ok (.dup, 1) := by decide +kernel
theorem dX10_next_181 : decode cX10_next 181 = .ok (.getfield 100, 3) := by decide +kernel
theorem dX10_next_184 : decode cX10_next 184 = .ok (.iconst 1, 1) := by decide +kernel
theorem dX10_next_185 : decode cX10_next 185 = .ok (.iadd, 1) := by decide +kernel
theorem dX10_next_186 : decode cX10_next 186 = .ok (.putfield 100, 3) := by decide +kernel
theorem dX10_next_189 : decode cX10_next 189 = .ok (.goto (-50), 3) := by decide +kernel
theorem dX10_next_192 : decode cX10_next 192 = .ok (.aload_n 0, 1) := by decide +kernel
theorem dX10_next_193 : decode cX10_next 193 = .ok (.aload_n 0, 1) := by decide +kernel
theorem dX10_next_194 : decode cX10_next 194 = .ok (.bipush 59, 2) := by decide +kernel
theorem dX10_next_196 : decode cX10_next 196 = .ok (.bipush 59, 2) := by decide +kernel
theorem dX10_next_198 : decode cX10_next 198 = .ok (.invokevirtual 103, 3) := by decide +kernel
theorem dX10_next_201 : decode cX10_next 201 = .ok (.ifCond .ne 14, 3) := by decide +kernel
theorem dX10_next_204 : decode cX10_next 204 = .ok (.aload_n 0, 1) := by decide +kernel
theorem dX10_next_205 : decode cX10_next 205 = .ok (.bipush 45, 2) := by decide +kernel
theorem dX10_next_207 : decode cX10_next 207 = .ok (.bipush 45, 2) := by decide +kernel
theorem dX10_next_209 : decode cX10_next 209 = .ok (.invokevirtual 103, 3) := by decide +kernel
theorem dX10_next_212 : decode cX10_next 212 = .ok (.ifCond .eq 7, 3) := by decide +kernel
theorem dX10_next_215 : decode cX10_next 215 = .ok (.iconst 3, 1) := by decide +kernel
theorem dX10_next_216 : decode cX10_next 216 = .ok (.goto 4, 3) := by decide +kernel
theorem dX10_next_219 : decode cX10_next 219 = .ok (.iconst 4, 1) := by decide +kernel
theorem dX10_next_220 : decode cX10_next 220 = .ok (.putfield 116, 3) := by decide +kernel
theorem dX10_next_223 : decode cX10_next 223 = .ok (.aload_n 0, 1) := by decide +kernel
theorem dX10_next_224 : decode cX10_next 224 = .ok (.dup, 1) := by decide +kernel
theorem dX10_next_225 : decode cX10_next 225 = .ok (.getfield 100, 3) := by decide +kernel
theorem dX10_next_228 : decode cX10_next 228 = .ok (.iconst 1, 1) := by decide +kernel
theorem dX10_next_229 : decode cX10_next 229 = .ok (.iadd, 1) := by decide +kernel
theorem dX10_next_230 : decode cX10_next 230 = .ok (.putfield 100, 3) := by decide +kernel
theorem dX10_next_233 : decode cX10_next 233 = .ok (.return_, 1) := by decide +kernel
theorem dX10_keptHere_0 : decode cX10_keptHere 0 = .ok (.iconst 0, 1) := by decide +kernel
theorem dX10_keptHere_1 : decode cX10_keptHere 1 = .ok (.istore_n 1, 1) := by decide +kernel
theorem dX10_keptHere_2 : decode cX10_keptHere 2 = .ok (.iconst 1, 1) := by decide +kernel
theorem dX10_keptHere_3 : decode cX10_keptHere 3 = .ok (.istore_n 2, 1) := by decide +kernel
theorem dX10_keptHere_4 : decode cX10_keptHere 4 = .ok (.iload_n 2, 1) := by decide +kernel
theorem dX10_keptHere_5 : decode cX10_keptHere 5 = .ok (.ldc 130, 2) := by decide +kernel
theorem dX10_keptHere_7 : decode cX10_keptHere 7 = .ok (.invokevirtual 132, 3) := by decide +kernel
theorem dX10_keptHere_10 : decode cX10_keptHere 10 = .ok (.if_icmp .ge 114, 3) := by decide +kernel
theorem dX10_keptHere_13 : decode cX10_keptHere 13 = .ok (.iload_n 2, 1) := by decide +kernel
theorem dX10_keptHere_14 : decode cX10_keptHere 14 = .ok (.istore_n 3, 1) := by decide +kernel
theorem dX10_keptHere_15 : decode cX10_keptHere 15 = .ok (.ldc 130, 2) := by decide +kernel
theorem dX10_keptHere_17 : decode cX10_keptHere 17 = .ok (.iload_n 3, 1) := by decide +kernel
theorem dX10_keptHere_18 : decode cX10_keptHere 18 = .ok (.invokevirtual 137, 3) := by decide +kernel
theorem dX10_keptHere_21 : decode cX10_keptHere 21 = .ok (.bipush 32, 2) := by decide +kernel
theorem dX10_keptHere_23 : decode cX10_keptHere 23 = .ok (.if_icmp .eq 9, 3) := by decide +kernel
theorem dX10_keptHere_26 : decode cX10_keptHere 26 = .ok (.iinc 3 1, 3) := by decide +kernel
theorem dX10_keptHere_29 : decode cX10_keptHere 29 = .ok (.goto (-14), 3) := by decide +kernel
theorem dX10_keptHere_32 : decode cX10_keptHere 32 = .ok (.iload_n 3, 1) := by decide +kernel
theorem dX10_keptHere_33 : decode cX10_keptHere 33 = .ok (.iload_n 2, 1) := by decide +kernel
theorem dX10_keptHere_34 : decode cX10_keptHere 34 = .ok (.isub, 1) := by decide +kernel
theorem dX10_keptHere_35 : decode cX10_keptHere 35 = .ok (.aload_n 0, 1) := by decide +kernel
theorem dX10_keptHere_36 : decode cX10_keptHere 36 = .ok (.getfield 100, 3) := by decide +kernel
theorem dX10_keptHere_39 : decode cX10_keptHere 39 = .ok (.aload_n 0, 1) := by decide +kernel
theorem dX10_keptHere_40 : decode cX10_keptHere 40 = .ok (.getfield 107, 3) := by decide +kernel
theorem dX10_keptHere_43 : decode cX10_keptHere 43 = .ok (.isub, 1) := by decide +kernel
theorem dX10_keptHere_44 : decode cX10_keptHere 44 = .ok (.if_icmp .ne 7, 3) := by decide +kernel
theorem dX10_keptHere_47 : decode cX10_keptHere 47 = .ok (.iconst 1, 1) := by decide +kernel
theorem dX10_keptHere_48 : decode cX10_keptHere 48 = .ok (.goto 4, 3) := by decide +kernel
theorem dX10_keptHere_51 : decode cX10_keptHere 51 = .ok (.iconst 0, 1) := by decide +kernel
theorem dX10_keptHere_52 : decode cX10_keptHere 52 = .ok (.istore 4, 2) := by decide +kernel
theorem dX10_keptHere_54 : decode cX10_keptHere 54 = .ok (.iconst 0, 1) := by decide +kernel
theorem dX10_keptHere_55 : decode cX10_keptHere 55 = .ok (.istore 5, 2) := by decide +kernel
theorem dX10_keptHere_57 : decode cX10_keptHere 57 = .ok (.iload 5, 2) := by decide +kernel
theorem dX10_keptHere_59 : decode cX10_keptHere 59 = .ok (.iload_n 3, 1) := by decide +kernel
theorem dX10_keptHere_60 : decode cX10_keptHere 60 = .ok (.iload_n 2, 1) := by decide +kernel
theorem dX10_keptHere_61 : decode cX10_keptHere 61 = .ok (.isub, 1) := by decide +kernel
theorem dX10_keptHere_62 : decode cX10_keptHere 62 = .ok (.if_icmp .ge 45, 3) := by decide +kernel
theorem dX10_keptHere_65 : decode cX10_keptHere 65 = .ok (.iload 4, 2) := by decide +kernel
theorem dX10_keptHere_67 : decode cX10_keptHere 67 = .ok (.ifCond .eq 40, 3) := by decide +kernel
theorem dX10_keptHere_70 : decode cX10_keptHere 70 = .ok (.ldc 130, 2) := by decide +kernel
theorem dX10_keptHere_72 : decode cX10_keptHere 72 = .ok (.iload_n 2, 1) := by decide +kernel
theorem dX10_keptHere_73 : decode cX10_keptHere 73 = .ok (.iload 5, 2) := by decide +kernel
theorem dX10_keptHere_75 : decode cX10_keptHere 75 = .ok (.iadd, 1) := by decide +kernel
theorem dX10_keptHere_76 : decode cX10_keptHere 76 = .ok (.invokevirtual 137, 3) := by decide +kernel
theorem dX10_keptHere_79 : decode cX10_keptHere 79 = .ok (.aload_n 0, 1) := by decide +kernel
theorem dX10_keptHere_80 : decode cX10_keptHere 80 = .ok (.getfield 19, 3) := by decide +kernel
theorem dX10_keptHere_83 : decode cX10_keptHere 83 = .ok (.aload_n 0, 1) := by decide +kernel
theorem dX10_keptHere_84 : decode cX10_keptHere 84 = .ok (.getfield 107, 3) := by decide +kernel
theorem dX10_keptHere_87 : decode cX10_keptHere 87 = .ok (.iload 5, 2) := by decide +kernel
theorem dX10_keptHere_89 : decode cX10_keptHere 89 = .ok (.iadd, 1) := by decide +kernel
theorem dX10_keptHere_90 : decode cX10_keptHere 90 = .ok (.iaload, 1) := by decide +kernel
theorem dX10_keptHere_91 : decode cX10_keptHere 91 = .ok (.if_icmp .ne 7, 3) := by decide +kernel
theorem dX10_keptHere_94 : decode cX10_keptHere 94 = .ok (.iconst 1, 1) := by decide +kernel
theorem dX10_keptHere_95 : decode cX10_keptHere 95 = .ok (.goto 4, 3) := by decide +kernel
theorem dX10_keptHere_98 : decode cX10_keptHere 98 = .ok (.iconst 0, 1) := by decide +kernel
theorem dX10_keptHere_99 : decode cX10_keptHere 99 = .ok (.istore 4, 2) := by decide +kernel
theorem dX10_keptHere_101 : decode cX10_keptHere 101 = .ok (.iinc 5 1, 3) := by decide +kernel
theorem dX10_keptHere_104 : decode cX10_keptHere 104 = .ok (.goto (-47), 3) := by decide +kernel
theorem dX10_keptHere_107 : decode cX10_keptHere 107 = .ok (.iload 4, 2) := by decide +kernel
theorem dX10_keptHere_109 : decode cX10_keptHere 109 = .ok (.ifCond .eq 5, 3) := by decide +kernel
theorem dX10_keptHere_112 : decode cX10_keptHere 112 = .ok (.iload_n 1, 1) := by decide +kernel
theorem dX10_keptHere_113 : decode cX10_keptHere 113 = .ok (.ireturn, 1) := by decide +kernel
theorem dX10_keptHere_114 : decode cX10_keptHere 114 = .ok (.iinc 1 1, 3) := by decide +kernel
theorem dX10_keptHere_117 : decode cX10_keptHere 117 = .ok (.iload_n 3, 1) := by decide +kernel
theorem dX10_keptHere_118 : decode cX10_keptHere 118 = .ok (.iconst 1, 1) := by decide +kernel
theorem dX10_keptHere_119 : decode cX10_keptHere 119 = .ok (.iadd, 1) := by decide +kernel
theorem dX10_keptHere_120 : decode cX10_keptHere 120 = .ok (.istore_n 2, 1) := by decide +kernel
theorem dX10_keptHere_121 : decode cX10_keptHere 121 = .ok (.goto (-117), 3) := by decide +kernel
theorem dX10_keptHere_124 : decode cX10_keptHere 124 = .ok (.iconst (-1), 1) := by decide +kernel
theorem dX10_keptHere_125 : decode cX10_keptHere 125 = .ok (.ireturn, 1) := by decide +kernel
theorem dX10_isWord_0 : decode cX10_isWord 0 = .ok (.aload_n 0, 1) := by decide +kernel
theorem dX10_isWord_1 : decode cX10_isWord 1 = .ok (.getfield 116, 3) := by decide +kernel
theorem dX10_isWord_4 : decode cX10_isWord 4 = .ok (.iconst 1, 1) := by decide +kernel
theorem dX10_isWord_5 : decode cX10_isWord 5 = .ok (.if_icmp .ne 23, 3) := by decide +kernel
theorem dX10_isWord_8 : decode cX10_isWord 8 = .ok (.aload_n 0, 1) := by decide +kernel
theorem dX10_isWord_9 : decode cX10_isWord 9 = .ok (.getfield 100, 3) := by decide +kernel
theorem dX10_isWord_12 : decode cX10_isWord 12 = .ok (.aload_n 0, 1) := by decide +kernel
theorem dX10_isWord_13 : decode cX10_isWord 13 = .ok (.getfield 107, 3) := by decide +kernel
theorem dX10_isWord_16 : decode cX10_isWord 16 = .ok (.isub, 1) := by decide +kernel
theorem dX10_isWord_17 : decode cX10_isWord 17 = .ok (.aload_n 1, 1) := by decide +kernel
theorem dX10_isWord_18 : decode cX10_isWord 18 = .ok (.invokevirtual 132, 3) := by decide +kernel
theorem dX10_isWord_21 : decode cX10_isWord 21 = .ok (.if_icmp .ne 7, 3) := by decide +kernel
theorem dX10_isWord_24 : decode cX10_isWord 24 = .ok (.iconst 1, 1) := by decide +kernel
theorem dX10_isWord_25 : decode cX10_isWord 25 = .ok (.goto 4, 3) := by decide +kernel
theorem dX10_isWord_28 : decode cX10_isWord 28 = .ok (.iconst 0, 1) := by decide +kernel
theorem dX10_isWord_29 : decode cX10_isWord 29 = .ok (.istore_n 2, 1) := by decide +kernel
theorem dX10_isWord_30 : decode cX10_isWord 30 = .ok (.iconst 0, 1) := by decide +kernel
theorem dX10_isWord_31 : decode cX10_isWord 31 = .ok (.istore_n 3, 1) := by decide +kernel
theorem dX10_isWord_32 : decode cX10_isWord 32 = .ok (.iload_n 3, 1) := by decide +kernel
theorem dX10_isWord_33 : decode cX10_isWord 33 = .ok (.aload_n 1, 1) := by decide +kernel
theorem dX10_isWord_34 : decode cX10_isWord 34 = .ok (.invokevirtual 132, 3) := by decide +kernel
theorem dX10_isWord_37 : decode cX10_isWord 37 = .ok (.if_icmp .ge 38, 3) := by decide +kernel
theorem dX10_isWord_40 : decode cX10_isWord 40 = .ok (.iload_n 2, 1) := by decide +kernel
theorem dX10_isWord_41 : decode cX10_isWord 41 = .ok (.ifCond .eq 34, 3) := by decide +kernel
theorem dX10_isWord_44 : decode cX10_isWord 44 = .ok (.aload_n 0, 1) := by decide +kernel
theorem dX10_isWord_45 : decode cX10_isWord 45 = .ok (.getfield 19, 3) := by decide +kernel
theorem dX10_isWord_48 : decode cX10_isWord 48 = .ok (.aload_n 0, 1) := by decide +kernel
theorem dX10_isWord_49 : decode cX10_isWord 49 = .ok (.getfield 107, 3) := by decide +kernel
theorem dX10_isWord_52 : decode cX10_isWord 52 = .ok (.iload_n 3, 1) := by decide +kernel
theorem dX10_isWord_53 : decode cX10_isWord 53 = .ok (.iadd, 1) := by decide +kernel
theorem dX10_isWord_54 : decode cX10_isWord 54 = .ok (.iaload, 1) := by decide +kernel
theorem dX10_isWord_55 : decode cX10_isWord 55 = .ok (.aload_n 1, 1) := by decide +kernel
theorem dX10_isWord_56 : decode cX10_isWord 56 = .ok (.iload_n 3, 1) := by decide +kernel
theorem dX10_isWord_57 : decode cX10_isWord 57 = .ok (.invokevirtual 137, 3) := by decide +kernel
theorem dX10_isWord_60 : decode cX10_isWord 60 = .ok (.if_icmp .ne 7, 3) := by decide +kernel
theorem dX10_isWord_63 : decode cX10_isWord 63 = .ok (.iconst 1, 1) := by decide +kernel
theorem dX10_isWord_64 : decode cX10_isWord 64 = .ok (.goto 4, 3) := by decide +kernel
theorem dX10_isWord_67 : decode cX10_isWord 67 = .ok (.iconst 0, 1) := by decide +kernel
theorem dX10_isWord_68 : decode cX10_isWord 68 = .ok (.istore_n 2, 1) := by decide +kernel
theorem dX10_isWord_69 : decode cX10_isWord 69 = .ok (.iinc 3 1, 3) := by decide +kernel
theorem dX10_isWord_72 : decode cX10_isWord 72 = .ok (.goto (-40), 3) := by decide +kernel
theorem dX10_isWord_75 : decode cX10_isWord 75 = .ok (.iload_n 2, 1) := by decide +kernel
theorem dX10_isWord_76 : decode cX10_isWord 76 = .ok (.ireturn, 1) := by decide +kernel
theorem dX10_isSign_0 : decode cX10_isSign 0 = .ok (.aload_n 0, 1) := by decide +kernel
theorem dX10_isSign_1 : decode cX10_isSign 1 = .ok (.getfield 116, 3) := by decide +kernel
theorem dX10_isSign_4 : decode cX10_isSign 4 = .ok (.iconst 3, 1) := by decide +kernel
theorem dX10_isSign_5 : decode cX10_isSign 5 = .ok (.if_icmp .ne 20, 3) := by decide +kernel
theorem dX10_isSign_8 : decode cX10_isSign 8 = .ok (.aload_n 0, 1) := by decide +kernel
theorem dX10_isSign_9 : decode cX10_isSign 9 = .ok (.getfield 19, 3) := by decide +kernel
theorem dX10_isSign_12 : decode cX10_isSign 12 = .ok (.aload_n 0, 1) := by decide +kernel
theorem dX10_isSign_13 : decode cX10_isSign 13 = .ok (.getfield 107, 3) := by decide +kernel
theorem dX10_isSign_16 : decode cX10_isSign 16 = .ok (.iaload, 1) := by decide +kernel
theorem dX10_isSign_17 : decode cX10_isSign 17 = .ok (.iload_n 1, 1) := by decide +kernel
theorem dX10_isSign_18 : decode cX10_isSign 18 = .ok (.if_icmp .ne 7, 3) := by decide +kernel
theorem dX10_isSign_21 : decode cX10_isSign 21 = .ok (.iconst 1, 1) := by decide +kernel
theorem dX10_isSign_22 : decode cX10_isSign 22 = .ok (.goto 4, 3) := by decide +kernel
theorem dX10_isSign_25 : decode cX10_isSign 25 = .ok (.iconst 0, 1) := by decide +kernel
theorem dX10_isSign_26 : decode cX10_isSign 26 = .ok (.ireturn, 1) := by decide +kernel
theorem dX10_faults_0 : decode cX10_faults 0 = .ok (.aload_n 0, 1) := by decide +kernel
theorem dX10_faults_1 : decode cX10_faults 1 = .ok (.getfield 141, 3) := by decide +kernel
theorem dX10_faults_4 : decode cX10_faults 4 = .ok (.ifCond .ne 21, 3) := by decide +kernel
theorem dX10_faults_7 : decode cX10_faults 7 = .ok (.aload_n 0, 1) := by decide +kernel
theorem dX10_faults_8 : decode cX10_faults 8 = .ok (.iconst 1, 1) := by decide +kernel
theorem dX10_faults_9 : decode cX10_faults 9 = .ok (.putfield 141, 3) := by decide +kernel
theorem dX10_faults_12 : decode cX10_faults 12 = .ok (.aload_n 0, 1) := by decide +kernel
theorem dX10_faults_13 : decode cX10_faults 13 = .ok (.iload_n 1, 1) := by decide +kernel
theorem dX10_faults_14 : decode cX10_faults 14 = .ok (.putfield 145, 3) := by decide +kernel
theorem dX10_faults_17 : decode cX10_faults 17 = .ok (.aload_n 0, 1) := by decide +kernel
theorem dX10_faults_18 : decode cX10_faults 18 = .ok (.aload_n 0, 1) := by decide +kernel
theorem dX10_faults_19 : decode cX10_faults 19 = .ok (.getfield 107, 3) := by decide +kernel
theorem dX10_faults_22 : decode cX10_faults 22 = .ok (.putfield 148, 3) := by decide +kernel
theorem dX10_faults_25 : decode cX10_faults 25 = .ok (.return_, 1) := by decide +kernel
theorem dX10_passes_0 : decode cX10_passes 0 = .ok (.iload_n 1, 1) := by decide +kernel
theorem dX10_passes_1 : decode cX10_passes 1 = .ok (.ifCond .ne 8, 3) := by decide +kernel
theorem dX10_passes_4 : decode cX10_passes 4 = .ok (.aload_n 0, 1) := by decide +kernel
theorem dX10_passes_5 : decode cX10_passes 5 = .ok (.iconst 1, 1) := by decide +kernel
theorem dX10_passes_6 : decode cX10_passes 6 = .ok (.invokevirtual 151, 3) := by decide +kernel
theorem dX10_passes_9 : decode cX10_passes 9 = .ok (.aload_n 0, 1) := by decide +kernel
theorem dX10_passes_10 : decode cX10_passes 10 = .ok (.getfield 141, 3) := by decide +kernel
theorem dX10_passes_13 : decode cX10_passes 13 = .ok (.ifCond .ne 7, 3) := by decide +kernel
theorem dX10_passes_16 : decode cX10_passes 16 = .ok (.aload_n 0, 1) := by decide +kernel
theorem dX10_passes_17 : decode cX10_passes 17 = .ok (.invokevirtual 155, 3) := by decide +kernel
theorem dX10_passes_20 : decode cX10_passes 20 = .ok (.return_, 1) := by decide +kernel
theorem dX10_reads_0 : decode cX10_reads 0 = .ok (.aload_n 0, 1) := by decide +kernel
theorem dX10_reads_1 : decode cX10_reads 1 = .ok (.getfield 110, 3) := by decide +kernel
theorem dX10_reads_4 : decode cX10_reads 4 = .ok (.istore_n 3, 1) := by decide +kernel
theorem dX10_reads_5 : decode cX10_reads 5 = .ok (.aload_n 0, 1) := by decide +kernel
theorem dX10_reads_6 : decode cX10_reads 6 = .ok (.getfield 116, 3) := by decide +kernel
theorem dX10_reads_9 : decode cX10_reads 9 = .ok (.iconst 2, 1) := by decide +kernel
theorem dX10_reads_10 : decode cX10_reads 10 = .ok (.if_icmp .eq 11, 3) := by decide +kernel
theorem dX10_reads_13 : decode cX10_reads 13 = .ok (.aload_n 0, 1) := by decide +kernel
theorem dX10_reads_14 : decode cX10_reads 14 = .ok (.iconst 1, 1) := by decide +kernel
theorem dX10_reads_15 : decode cX10_reads 15 = .ok (.invokevirtual 151, 3) := by decide +kernel
theorem dX10_reads_18 : decode cX10_reads 18 = .ok (.goto 20, 3) := by decide +kernel
theorem dX10_reads_21 : decode cX10_reads 21 = .ok (.iload_n 3, 1) := by decide +kernel
theorem dX10_reads_22 : decode cX10_reads 22 = .ok (.i2l, 1) := by decide +kernel
theorem dX10_reads_23 : decode cX10_reads 23 = .ok (.iload_n 1, 1) := by decide +kernel
theorem dX10_reads_24 : decode cX10_reads 24 = .ok (.i2l, 1) := by decide +kernel
theorem dX10_reads_25 : decode cX10_reads 25 = .ok (.iload_n 2, 1) := by decide +kernel
theorem dX10_reads_26 : decode cX10_reads 26 = .ok (.i2l, 1) := by decide +kernel
theorem dX10_reads_27 : decode cX10_reads 27 = .ok (.invokestatic 96, 3) := by decide +kernel
theorem dX10_reads_30 : decode cX10_reads 30 = .ok (.ifCond .ne 8, 3) := by decide +kernel
theorem dX10_reads_33 : decode cX10_reads 33 = .ok (.aload_n 0, 1) := by decide +kernel
theorem dX10_reads_34 : decode cX10_reads 34 = .ok (.iconst 2, 1) := by decide +kernel
theorem dX10_reads_35 : decode cX10_reads 35 = .ok (.invokevirtual 151, 3) := by decide +kernel
theorem dX10_reads_38 : decode cX10_reads 38 = .ok (.aload_n 0, 1) := by decide +kernel
theorem dX10_reads_39 : decode cX10_reads 39 = .ok (.iconst 1, 1) := by decide +kernel
theorem dX10_reads_40 : decode cX10_reads 40 = .ok (.invokevirtual 158, 3) := by decide +kernel
theorem dX10_reads_43 : decode cX10_reads 43 = .ok (.iload_n 3, 1) := by decide +kernel
theorem dX10_reads_44 : decode cX10_reads 44 = .ok (.ireturn, 1) := by decide +kernel
theorem dX10_named_0 : decode cX10_named 0 = .ok (.aload_n 0, 1) := by decide +kernel
theorem dX10_named_1 : decode cX10_named 1 = .ok (.aload_n 0, 1) := by decide +kernel
theorem dX10_named_2 : decode cX10_named 2 = .ok (.getfield 141, 3) := by decide +kernel
theorem dX10_named_5 : decode cX10_named 5 = .ok (.ifCond .ne 11, 3) := by decide +kernel
theorem dX10_named_8 : decode cX10_named 8 = .ok (.aload_n 0, 1) := by decide +kernel
theorem dX10_named_9 : decode cX10_named 9 = .ok (.aload_n 1, 1) := by decide +kernel
theorem dX10_named_10 : decode cX10_named 10 = .ok (.invokevirtual 162, 3) := by decide +kernel
theorem dX10_named_13 : decode cX10_named 13 = .ok (.ifCond .eq 7, 3) := by decide +kernel
theorem dX10_named_16 : decode cX10_named 16 = .ok (.iconst 1, 1) := by decide +kernel
theorem dX10_named_17 : decode cX10_named 17 = .ok (.goto 4, 3) := by decide +kernel
theorem dX10_named_20 : decode cX10_named 20 = .ok (.iconst 0, 1) := by decide +kernel
theorem dX10_named_21 : decode cX10_named 21 = .ok (.invokevirtual 158, 3) := by decide +kernel
theorem dX10_named_24 : decode cX10_named 24 = .ok (.aload_n 0, 1) := by decide +kernel
theorem dX10_named_25 : decode cX10_named 25 = .ok (.getfield 141, 3) := by decide +kernel
theorem dX10_named_28 : decode cX10_named 28 = .ok (.ifCond .eq 7, 3) := by decide +kernel
theorem dX10_named_31 : decode cX10_named 31 = .ok (.iconst 0, 1) := by decide +kernel
theorem dX10_named_32 : decode cX10_named 32 = .ok (.goto 9, 3) := by decide +kernel
theorem dX10_named_35 : decode cX10_named 35 = .ok (.aload_n 0, 1) := by decide +kernel
theorem dX10_named_36 : decode cX10_named 36 = .ok (.iload_n 2, 1) := by decide +kernel
theorem dX10_named_37 : decode cX10_named 37 = .ok (.iload_n 3, 1) := by decide +kernel
theorem dX10_named_38 : decode cX10_named 38 = .ok (.invokevirtual 166, 3) := by decide +kernel
theorem dX10_named_41 : decode cX10_named 41 = .ok (.ireturn, 1) := by decide +kernel
theorem dX10_readsDrum_0 : decode cX10_readsDrum 0 = .ok (.aload_n 0, 1) := by decide +kernel
theorem dX10_readsDrum_1 : decode cX10_readsDrum 1 = .ok (.aload_n 0, 1) := by decide +kernel
theorem dX10_readsDrum_2 : decode cX10_readsDrum 2 = .ok (.getfield 113, 3) := by decide +kernel
theorem dX10_readsDrum_5 : decode cX10_readsDrum 5 = .ok (.bipush 8, 2) := by decide +kernel
theorem dX10_readsDrum_7 : decode cX10_readsDrum 7 = .ok (.if_icmp .ne 7, 3) := by decide +kernel
theorem dX10_readsDrum_10 : decode cX10_readsDrum 10 = .ok (.iconst 1, 1) := by decide +kernel
theorem dX10_readsDrum_11 : decode cX10_readsDrum 11 = .ok (.goto 4, 3) := by decide +kernel
theorem dX10_readsDrum_14 : decode cX10_readsDrum 14 = .ok (.iconst 0, 1) := by decide +kernel
theorem dX10_readsDrum_15 : decode cX10_readsDrum 15 = .ok (.invokevirtual 158, 3) := by decide +kernel
theorem dX10_readsDrum_18 : decode cX10_readsDrum 18 = .ok (.aload_n 0, 1) := by decide +kernel
theorem dX10_readsDrum_19 : decode cX10_readsDrum 19 = .ok (.getfield 7, 3) := by decide +kernel
theorem dX10_readsDrum_22 : decode cX10_readsDrum 22 = .ok (.iconst 0, 1) := by decide +kernel
theorem dX10_readsDrum_23 : decode cX10_readsDrum 23 = .ok (.aload_n 0, 1) := by decide +kernel
theorem dX10_readsDrum_24 : decode cX10_readsDrum 24 = .ok (.ldc 169, 2) := by decide +kernel
theorem dX10_readsDrum_26 : decode cX10_readsDrum 26 = .ok (.iconst 1, 1) := by decide +kernel
theorem dX10_readsDrum_27 : decode cX10_readsDrum 27 = .ok (.iconst 4, 1) := by decide +kernel
theorem dX10_readsDrum_28 : decode cX10_readsDrum 28 = .ok (.invokevirtual 171, 3) := by decide +kernel
theorem dX10_readsDrum_31 : decode cX10_readsDrum 31 = .ok (.iastore, 1) := by decide +kernel
theorem dX10_readsDrum_32 : decode cX10_readsDrum 32 = .ok (.aload_n 0, 1) := by decide +kernel
theorem dX10_readsDrum_33 : decode cX10_readsDrum 33 = .ok (.getfield 7, 3) := by decide +kernel
theorem dX10_readsDrum_36 : decode cX10_readsDrum 36 = .ok (.iconst 1, 1) := by decide +kernel
theorem dX10_readsDrum_37 : decode cX10_readsDrum 37 = .ok (.aload_n 0, 1) := by decide +kernel
theorem dX10_readsDrum_38 : decode cX10_readsDrum 38 = .ok (.ldc 175, 2) := by decide +kernel
theorem dX10_readsDrum_40 : decode cX10_readsDrum 40 = .ok (.iconst 2, 1) := by decide +kernel
theorem dX10_readsDrum_41 : decode cX10_readsDrum 41 = .ok (.bipush 12, 2) := by decide +kernel
theorem dX10_readsDrum_43 : decode cX10_readsDrum 43 = .ok (.invokevirtual 171, 3) := by decide +kernel
theorem dX10_readsDrum_46 : decode cX10_readsDrum 46 = .ok (.iastore, 1) := by decide +kernel
theorem dX10_readsDrum_47 : decode cX10_readsDrum 47 = .ok (.aload_n 0, 1) := by decide +kernel
theorem dX10_readsDrum_48 : decode cX10_readsDrum 48 = .ok (.getfield 7, 3) := by decide +kernel
theorem dX10_readsDrum_51 : decode cX10_readsDrum 51 = .ok (.iconst 2, 1) := by decide +kernel
theorem dX10_readsDrum_52 : decode cX10_readsDrum 52 = .ok (.aload_n 0, 1) := by decide +kernel
theorem dX10_readsDrum_53 : decode cX10_readsDrum 53 = .ok (.ldc 177, 2) := by decide +kernel
theorem dX10_readsDrum_55 : decode cX10_readsDrum 55 = .ok (.iconst 0, 1) := by decide +kernel
theorem dX10_readsDrum_56 : decode cX10_readsDrum 56 = .ok (.bipush 9, 2) := by decide +kernel
theorem dX10_readsDrum_58 : decode cX10_readsDrum 58 = .ok (.invokevirtual 171, 3) := by decide +kernel
theorem dX10_readsDrum_61 : decode cX10_readsDrum 61 = .ok (.iastore, 1) := by decide +kernel
theorem dX10_readsDrum_62 : decode cX10_readsDrum 62 = .ok (.aload_n 0, 1) := by decide +kernel
theorem dX10_readsDrum_63 : decode cX10_readsDrum 63 = .ok (.aload_n 0, 1) := by decide +kernel
theorem dX10_readsDrum_64 : decode cX10_readsDrum 64 = .ok (.getfield 141, 3) := by decide +kernel
theorem dX10_readsDrum_67 : decode cX10_readsDrum 67 = .ok (.ifCond .ne 12, 3) := by decide +kernel
theorem dX10_readsDrum_70 : decode cX10_readsDrum 70 = .ok (.aload_n 0, 1) := by decide +kernel
theorem dX10_readsDrum_71 : decode cX10_readsDrum 71 = .ok (.ldc 179, 2) := by decide +kernel
theorem dX10_readsDrum_73 : decode cX10_readsDrum 73 = .ok (.invokevirtual 162, 3) := by decide +kernel
theorem dX10_readsDrum_76 : decode cX10_readsDrum 76 = .ok (.ifCond .eq 7, 3) := by decide +kernel
theorem dX10_readsDrum_79 : decode cX10_readsDrum 79 = .ok (.iconst 1, 1) := by decide +kernel
theorem dX10_readsDrum_80 : decode cX10_readsDrum 80 = .ok (.goto 4, 3) := by decide +kernel
theorem dX10_readsDrum_83 : decode cX10_readsDrum 83 = .ok (.iconst 0, 1) := by decide +kernel
theorem dX10_readsDrum_84 : decode cX10_readsDrum 84 = .ok (.invokevirtual 158, 3) := by decide +kernel
theorem dX10_readsDrum_87 : decode cX10_readsDrum 87 = .ok (.aload_n 0, 1) := by decide +kernel
theorem dX10_readsDrum_88 : decode cX10_readsDrum 88 = .ok (.getfield 141, 3) := by decide +kernel
theorem dX10_readsDrum_91 : decode cX10_readsDrum 91 = .ok (.ifCond .ne 27, 3) := by decide +kernel
theorem dX10_readsDrum_94 : decode cX10_readsDrum 94 = .ok (.aload_n 0, 1) := by decide +kernel
theorem dX10_readsDrum_95 : decode cX10_readsDrum 95 = .ok (.getfield 116, 3) := by decide +kernel
theorem dX10_readsDrum_98 : decode cX10_readsDrum 98 = .ok (.iconst 2, 1) := by decide +kernel
theorem dX10_readsDrum_99 : decode cX10_readsDrum 99 = .ok (.if_icmp .ne 19, 3) := by decide +kernel
theorem dX10_readsDrum_102 : decode cX10_readsDrum 102 = .ok (.aload_n 0, 1) := by decide +kernel
theorem dX10_readsDrum_103 : decode cX10_readsDrum 103 = .ok (.aload_n 0, 1) := by decide +kernel
theorem dX10_readsDrum_104 : decode cX10_readsDrum 104 = .ok (.getfield 110, 3) := by decide +kernel
theorem dX10_readsDrum_107 : decode cX10_readsDrum 107 = .ok (.invokevirtual 181, 3) := by decide +kernel
theorem dX10_readsDrum_110 : decode cX10_readsDrum 110 = .ok (.ifCond .ne 8, 3) := by decide +kernel
theorem dX10_readsDrum_113 : decode cX10_readsDrum 113 = .ok (.aload_n 0, 1) := by decide +kernel
theorem dX10_readsDrum_114 : decode cX10_readsDrum 114 = .ok (.iconst 2, 1) := by decide +kernel
theorem dX10_readsDrum_115 : decode cX10_readsDrum 115 = .ok (.invokevirtual 151, 3) := by decide +kernel
theorem dX10_readsDrum_118 : decode cX10_readsDrum 118 = .ok (.aload_n 0, 1) := by decide +kernel
theorem dX10_readsDrum_119 : decode cX10_readsDrum 119 = .ok (.getfield 7, 3) := by decide +kernel
theorem dX10_readsDrum_122 : decode cX10_readsDrum 122 = .ok (.iconst 3, 1) := by decide +kernel
theorem dX10_readsDrum_123 : decode cX10_readsDrum 123 = .ok (.aload_n 0, 1) := by decide +kernel
theorem dX10_readsDrum_124 : decode cX10_readsDrum 124 = .ok (.getfield 141, 3) := by decide +kernel
theorem dX10_readsDrum_127 : decode cX10_readsDrum 127 = .ok (.ifCond .eq 7, 3) := by decide +kernel
theorem dX10_readsDrum_130 : decode cX10_readsDrum 130 = .ok (.iconst 0, 1) := by decide +kernel
theorem dX10_readsDrum_131 : decode cX10_readsDrum 131 = .ok (.goto 10, 3) := by decide +kernel
theorem dX10_readsDrum_134 : decode cX10_readsDrum 134 = .ok (.aload_n 0, 1) := by decide +kernel
theorem dX10_readsDrum_135 : decode cX10_readsDrum 135 = .ok (.iconst 0, 1) := by decide +kernel
theorem dX10_readsDrum_136 : decode cX10_readsDrum 136 = .ok (.bipush 12, 2) := by decide +kernel
theorem dX10_readsDrum_138 : decode cX10_readsDrum 138 = .ok (.invokevirtual 166, 3) := by decide +kernel
theorem dX10_readsDrum_141 : decode cX10_readsDrum 141 = .ok (.iastore, 1) := by decide +kernel
theorem dX10_readsDrum_142 : decode cX10_readsDrum 142 = .ok (.aload_n 0, 1) := by decide +kernel
theorem dX10_readsDrum_143 : decode cX10_readsDrum 143 = .ok (.getfield 7, 3) := by decide +kernel
theorem dX10_readsDrum_146 : decode cX10_readsDrum 146 = .ok (.iconst 4, 1) := by decide +kernel
theorem dX10_readsDrum_147 : decode cX10_readsDrum 147 = .ok (.aload_n 0, 1) := by decide +kernel
theorem dX10_readsDrum_148 : decode cX10_readsDrum 148 = .ok (.ldc 185, 2) := by decide +kernel
theorem dX10_readsDrum_150 : decode cX10_readsDrum 150 = .ok (.iconst 0, 1) := by decide +kernel
theorem dX10_readsDrum_151 : decode cX10_readsDrum 151 = .ok (.bipush 9, 2) := by decide +kernel
theorem dX10_readsDrum_153 : decode cX10_readsDrum 153 = .ok (.invokevirtual 171, 3) := by decide +kernel
theorem dX10_readsDrum_156 : decode cX10_readsDrum 156 = .ok (.iastore, 1) := by decide +kernel
theorem dX10_readsDrum_157 : decode cX10_readsDrum 157 = .ok (.return_, 1) := by decide +kernel
theorem dX10_isQuick_0 : decode cX10_isQuick 0 = .ok (.iload_n 1, 1) := by decide +kernel
theorem dX10_isQuick_1 : decode cX10_isQuick 1 = .ok (.ifCond .eq 32, 3) := by decide +kernel
theorem dX10_isQuick_4 : decode cX10_isQuick 4 = .ok (.iload_n 1, 1) := by decide +kernel
theorem dX10_isQuick_5 : decode cX10_isQuick 5 = .ok (.i2l, 1) := by decide +kernel
theorem dX10_isQuick_6 : decode cX10_isQuick 6 = .ok (.lconst 1, 1) := by decide +kernel
theorem dX10_isQuick_7 : decode cX10_isQuick 7 = .ok (.aload_n 0, 1) := by decide +kernel
theorem dX10_isQuick_8 : decode cX10_isQuick 8 = .ok (.getfield 7, 3) := by decide +kernel
theorem dX10_isQuick_11 : decode cX10_isQuick 11 = .ok (.iconst 1, 1) := by decide +kernel
theorem dX10_isQuick_12 : decode cX10_isQuick 12 = .ok (.iaload, 1) := by decide +kernel
theorem dX10_isQuick_13 : decode cX10_isQuick 13 = .ok (.iconst 1, 1) := by decide +kernel
theorem dX10_isQuick_14 : decode cX10_isQuick 14 = .ok (.isub, 1) := by decide +kernel
theorem dX10_isQuick_15 : decode cX10_isQuick 15 = .ok (.i2l, 1) := by decide +kernel
theorem dX10_isQuick_16 : decode cX10_isQuick 16 = .ok (.invokestatic 96, 3) := by decide +kernel
theorem dX10_isQuick_19 : decode cX10_isQuick 19 = .ok (.ifCond .eq 18, 3) := by decide +kernel
theorem dX10_isQuick_22 : decode cX10_isQuick 22 = .ok (.aload_n 0, 1) := by decide +kernel
theorem dX10_isQuick_23 : decode cX10_isQuick 23 = .ok (.getfield 7, 3) := by decide +kernel
theorem dX10_isQuick_26 : decode cX10_isQuick 26 = .ok (.iconst 1, 1) := by decide +kernel
theorem dX10_isQuick_27 : decode cX10_isQuick 27 = .ok (.iaload, 1) := by decide +kernel
theorem dX10_isQuick_28 : decode cX10_isQuick 28 = .ok (.iload_n 1, 1) := by decide +kernel
theorem dX10_isQuick_29 : decode cX10_isQuick 29 = .ok (.irem, 1) := by decide +kernel
theorem dX10_isQuick_30 : decode cX10_isQuick 30 = .ok (.ifCond .ne 7, 3) := by decide +kernel
theorem dX10_isQuick_33 : decode cX10_isQuick 33 = .ok (.iconst 1, 1) := by decide +kernel
theorem dX10_isQuick_34 : decode cX10_isQuick 34 = .ok (.goto 4, 3) := by decide +kernel
theorem dX10_isQuick_37 : decode cX10_isQuick 37 = .ok (.iconst 0, 1) := by decide +kernel
theorem dX10_isQuick_38 : decode cX10_isQuick 38 = .ok (.ireturn, 1) := by decide +kernel
theorem dX10_isAlike_0 : decode cX10_isAlike 0 = .ok (.iload_n 2, 1) := by decide +kernel
theorem dX10_isAlike_1 : decode cX10_isAlike 1 = .ok (.iload 4, 2) := by decide +kernel
theorem dX10_isAlike_3 : decode cX10_isAlike 3 = .ok (.if_icmp .ne 7, 3) := by decide +kernel
theorem dX10_isAlike_6 : decode cX10_isAlike 6 = .ok (.iconst 1, 1) := by decide +kernel
theorem dX10_isAlike_7 : decode cX10_isAlike 7 = .ok (.goto 4, 3) := by decide +kernel
theorem dX10_isAlike_10 : decode cX10_isAlike 10 = .ok (.iconst 0, 1) := by decide +kernel
theorem dX10_isAlike_11 : decode cX10_isAlike 11 = .ok (.istore 5, 2) := by decide +kernel
theorem dX10_isAlike_13 : decode cX10_isAlike 13 = .ok (.iconst 0, 1) := by decide +kernel
theorem dX10_isAlike_14 : decode cX10_isAlike 14 = .ok (.istore 6, 2) := by decide +kernel
theorem dX10_isAlike_16 : decode cX10_isAlike 16 = .ok (.iload 6, 2) := by decide +kernel
theorem dX10_isAlike_18 : decode cX10_isAlike 18 = .ok (.iload_n 2, 1) := by decide +kernel
theorem dX10_isAlike_19 : decode cX10_isAlike 19 = .ok (.if_icmp .ge 42, 3) := by decide +kernel
theorem dX10_isAlike_22 : decode cX10_isAlike 22 = .ok (.iload 5, 2) := by decide +kernel
theorem dX10_isAlike_24 : decode cX10_isAlike 24 = .ok (.ifCond .eq 37, 3) := by decide +kernel
theorem dX10_isAlike_27 : decode cX10_isAlike 27 = .ok (.aload_n 0, 1) := by decide +kernel
theorem dX10_isAlike_28 : decode cX10_isAlike 28 = .ok (.getfield 19, 3) := by decide +kernel
theorem dX10_isAlike_31 : decode cX10_isAlike 31 = .ok (.iload_n 1, 1) := by decide +kernel
theorem dX10_isAlike_32 : decode cX10_isAlike 32 = .ok (.iload 6, 2) := by decide +kernel
theorem dX10_isAlike_34 : decode cX10_isAlike 34 = .ok (.iadd, 1) := by decide +kernel
theorem dX10_isAlike_35 : decode cX10_isAlike 35 = .ok (.iaload, 1) := by decide +kernel
theorem dX10_isAlike_36 : decode cX10_isAlike 36 = .ok (.aload_n 0, 1) := by decide +kernel
theorem dX10_isAlike_37 : decode cX10_isAlike 37 = .ok (.getfield 19, 3) := by decide +kernel
theorem dX10_isAlike_40 : decode cX10_isAlike 40 = .ok (.iload_n 3, 1) := by decide +kernel
theorem dX10_isAlike_41 : decode cX10_isAlike 41 = .ok (.iload 6, 2) := by decide +kernel
theorem dX10_isAlike_43 : decode cX10_isAlike 43 = .ok (.iadd, 1) := by decide +kernel
theorem dX10_isAlike_44 : decode cX10_isAlike 44 = .ok (.iaload, 1) := by decide +kernel
theorem dX10_isAlike_45 : decode cX10_isAlike 45 = .ok (.if_icmp .ne 7, 3) := by decide +kernel
theorem dX10_isAlike_48 : decode cX10_isAlike 48 = .ok (.iconst 1, 1) := by decide +kernel
theorem dX10_isAlike_49 : decode cX10_isAlike 49 = .ok (.goto 4, 3) := by decide +kernel
theorem dX10_isAlike_52 : decode cX10_isAlike 52 = .ok (.iconst 0, 1) := by decide +kernel
theorem dX10_isAlike_53 : decode cX10_isAlike 53 = .ok (.istore 5, 2) := by decide +kernel
theorem dX10_isAlike_55 : decode cX10_isAlike 55 = .ok (.iinc 6 1, 3) := by decide +kernel
theorem dX10_isAlike_58 : decode cX10_isAlike 58 = .ok (.goto (-42), 3) := by decide +kernel
theorem dX10_isAlike_61 : decode cX10_isAlike 61 = .ok (.iload 5, 2) := by decide +kernel
theorem dX10_isAlike_63 : decode cX10_isAlike 63 = .ok (.ireturn, 1) := by decide +kernel
theorem dX10_itemNamed_0 : decode cX10_itemNamed 0 = .ok (.iconst 0, 1) := by decide +kernel
theorem dX10_itemNamed_1 : decode cX10_itemNamed 1 = .ok (.istore_n 3, 1) := by decide +kernel
theorem dX10_itemNamed_2 : decode cX10_itemNamed 2 = .ok (.iload_n 3, 1) := by decide +kernel
theorem dX10_itemNamed_3 : decode cX10_itemNamed 3 = .ok (.aload_n 0, 1) := by decide +kernel
theorem dX10_itemNamed_4 : decode cX10_itemNamed 4 = .ok (.getfield 7, 3) := by decide +kernel
theorem dX10_itemNamed_7 : decode cX10_itemNamed 7 = .ok (.iconst 5, 1) := by decide +kernel
theorem dX10_itemNamed_8 : decode cX10_itemNamed 8 = .ok (.iaload, 1) := by decide +kernel
theorem dX10_itemNamed_9 : decode cX10_itemNamed 9 = .ok (.if_icmp .ge 32, 3) := by decide +kernel
theorem dX10_itemNamed_12 : decode cX10_itemNamed 12 = .ok (.aload_n 0, 1) := by decide +kernel
theorem dX10_itemNamed_13 : decode cX10_itemNamed 13 = .ok (.aload_n 0, 1) := by decide +kernel
theorem dX10_itemNamed_14 : decode cX10_itemNamed 14 = .ok (.getfield 26, 3) := by decide +kernel
theorem dX10_itemNamed_17 : decode cX10_itemNamed 17 = .ok (.iload_n 3, 1) := by decide +kernel
theorem dX10_itemNamed_18 : decode cX10_itemNamed 18 = .ok (.iaload, 1) := by decide +kernel
theorem dX10_itemNamed_19 : decode cX10_itemNamed 19 = .ok (.aload_n 0, 1) := by decide +kernel
theorem dX10_itemNamed_20 : decode cX10_itemNamed 20 = .ok (.getfield 29, 3) := by decide +kernel
theorem dX10_itemNamed_23 : decode cX10_itemNamed 23 = .ok (.iload_n 3, 1) := by decide +kernel
theorem dX10_itemNamed_24 : decode cX10_itemNamed 24 = .ok (.iaload, 1) := by decide +kernel
theorem dX10_itemNamed_25 : decode cX10_itemNamed 25 = .ok (.iload_n 1, 1) := by decide +kernel
theorem dX10_itemNamed_26 : decode cX10_itemNamed 26 = .ok (.iload_n 2, 1) := by decide +kernel
theorem dX10_itemNamed_27 : decode cX10_itemNamed 27 = .ok (.invokevirtual 187, 3) := by decide +kernel
theorem dX10_itemNamed_30 : decode cX10_itemNamed 30 = .ok (.ifCond .eq 5, 3) := by decide +kernel
theorem dX10_itemNamed_33 : decode cX10_itemNamed 33 = .ok (.iload_n 3, 1) := by decide +kernel
theorem dX10_itemNamed_34 : decode cX10_itemNamed 34 = .ok (.ireturn, 1) := by decide +kernel
theorem dX10_itemNamed_35 : decode cX10_itemNamed 35 = .ok (.iinc 3 1, 3) := by decide +kernel
theorem dX10_itemNamed_38 : decode cX10_itemNamed 38 = .ok (.goto (-36), 3) := by decide +kernel
theorem dX10_itemNamed_41 : decode cX10_itemNamed 41 = .ok (.iconst (-1), 1) := by decide +kernel
theorem dX10_itemNamed_42 : decode cX10_itemNamed 42 = .ok (.ireturn, 1) := by decide +kernel
theorem dX10_readsName_0 : decode cX10_readsName 0 = .ok (.aload_n 0, 1) := by decide +kernel
theorem dX10_readsName_1 : decode cX10_readsName 1 = .ok (.getfield 116, 3) := by decide +kernel
theorem dX10_readsName_4 : decode cX10_readsName 4 = .ok (.iconst 1, 1) := by decide +kernel
theorem dX10_readsName_5 : decode cX10_readsName 5 = .ok (.if_icmp .ne 51, 3) := by decide +kernel
theorem dX10_readsName_8 : decode cX10_readsName 8 = .ok (.aload_n 0, 1) := by decide +kernel
theorem dX10_readsName_9 : decode cX10_readsName 9 = .ok (.getfield 100, 3) := by decide +kernel
theorem dX10_readsName_12 : decode cX10_readsName 12 = .ok (.aload_n 0, 1) := by decide +kernel
theorem dX10_readsName_13 : decode cX10_readsName 13 = .ok (.getfield 107, 3) := by decide +kernel
theorem dX10_readsName_16 : decode cX10_readsName 16 = .ok (.isub, 1) := by decide +kernel
theorem dX10_readsName_17 : decode cX10_readsName 17 = .ok (.bipush 6, 2) := by decide +kernel
theorem dX10_readsName_19 : decode cX10_readsName 19 = .ok (.if_icmp .gt 32, 3) := by decide +kernel
theorem dX10_readsName_22 : decode cX10_readsName 22 = .ok (.aload_n 0, 1) := by decide +kernel
theorem dX10_readsName_23 : decode cX10_readsName 23 = .ok (.getfield 113, 3) := by decide +kernel
theorem dX10_readsName_26 : decode cX10_readsName 26 = .ok (.iconst (-1), 1) := by decide +kernel
theorem dX10_readsName_27 : decode cX10_readsName 27 = .ok (.if_icmp .ne 24, 3) := by decide +kernel
theorem dX10_readsName_30 : decode cX10_readsName 30 = .ok (.aload_n 0, 1) := by decide +kernel
theorem dX10_readsName_31 : decode cX10_readsName 31 = .ok (.aload_n 0, 1) := by decide +kernel
theorem dX10_readsName_32 : decode cX10_readsName 32 = .ok (.getfield 107, 3) := by decide +kernel
theorem dX10_readsName_35 : decode cX10_readsName 35 = .ok (.aload_n 0, 1) := by decide +kernel
theorem dX10_readsName_36 : decode cX10_readsName 36 = .ok (.getfield 100, 3) := by decide +kernel
theorem dX10_readsName_39 : decode cX10_readsName 39 = .ok (.aload_n 0, 1) := by decide +kernel
theorem dX10_readsName_40 : decode cX10_readsName 40 = .ok (.getfield 107, 3) := by decide +kernel
theorem dX10_readsName_43 : decode cX10_readsName 43 = .ok (.isub, 1) := by decide +kernel
theorem dX10_readsName_44 : decode cX10_readsName 44 = .ok (.invokevirtual 191, 3) := by decide +kernel
theorem dX10_readsName_47 : decode cX10_readsName 47 = .ok (.iconst (-1), 1) := by decide +kernel
theorem dX10_readsName_48 : decode cX10_readsName 48 = .ok (.if_icmp .eq 8, 3) := by decide +kernel
theorem dX10_readsName_51 : decode cX10_readsName 51 = .ok (.aload_n 0, 1) := by decide +kernel
theorem dX10_readsName_52 : decode cX10_readsName 52 = .ok (.iconst 2, 1) := by decide +kernel
theorem dX10_readsName_53 : decode cX10_readsName 53 = .ok (.invokevirtual 151, 3) := by decide +kernel
theorem dX10_readsName_56 : decode cX10_readsName 56 = .ok (.aload_n 0, 1) := by decide +kernel
theorem dX10_readsName_57 : decode cX10_readsName 57 = .ok (.getfield 26, 3) := by decide +kernel
theorem dX10_readsName_60 : decode cX10_readsName 60 = .ok (.aload_n 0, 1) := by decide +kernel
theorem dX10_readsName_61 : decode cX10_readsName 61 = .ok (.getfield 7, 3) := by decide +kernel
theorem dX10_readsName_64 : decode cX10_readsName 64 = .ok (.iconst 5, 1) := by decide +kernel
theorem dX10_readsName_65 : decode cX10_readsName 65 = .ok (.iaload, 1) := by decide +kernel
theorem dX10_readsName_66 : decode cX10_readsName 66 = .ok (.aload_n 0, 1) := by decide +kernel
theorem dX10_readsName_67 : decode cX10_readsName 67 = .ok (.getfield 107, 3) := by decide +kernel
theorem dX10_readsName_70 : decode cX10_readsName 70 = .ok (.iastore, 1) := by decide +kernel
theorem dX10_readsName_71 : decode cX10_readsName 71 = .ok (.aload_n 0, 1) := by decide +kernel
theorem dX10_readsName_72 : decode cX10_readsName 72 = .ok (.getfield 29, 3) := by decide +kernel
theorem dX10_readsName_75 : decode cX10_readsName 75 = .ok (.aload_n 0, 1) := by decide +kernel
theorem dX10_readsName_76 : decode cX10_readsName 76 = .ok (.getfield 7, 3) := by decide +kernel
theorem dX10_readsName_79 : decode cX10_readsName 79 = .ok (.iconst 5, 1) := by decide +kernel
theorem dX10_readsName_80 : decode cX10_readsName 80 = .ok (.iaload, 1) := by decide +kernel
theorem dX10_readsName_81 : decode cX10_readsName 81 = .ok (.aload_n 0, 1) := by decide +kernel
theorem dX10_readsName_82 : decode cX10_readsName 82 = .ok (.getfield 100, 3) := by decide +kernel
theorem dX10_readsName_85 : decode cX10_readsName 85 = .ok (.aload_n 0, 1) := by decide +kernel
theorem dX10_readsName_86 : decode cX10_readsName 86 = .ok (.getfield 107, 3) := by decide +kernel
theorem dX10_readsName_89 : decode cX10_readsName 89 = .ok (.isub, 1) := by decide +kernel
theorem dX10_readsName_90 : decode cX10_readsName 90 = .ok (.iastore, 1) := by decide +kernel
theorem dX10_readsName_91 : decode cX10_readsName 91 = .ok (.aload_n 0, 1) := by decide +kernel
theorem dX10_readsName_92 : decode cX10_readsName 92 = .ok (.aload_n 0, 1) := by decide +kernel
theorem dX10_readsName_93 : decode cX10_readsName 93 = .ok (.getfield 116, 3) := by decide +kernel
theorem dX10_readsName_96 : decode cX10_readsName 96 = .ok (.iconst 1, 1) := by decide +kernel
theorem dX10_readsName_97 : decode cX10_readsName 97 = .ok (.if_icmp .ne 7, 3) := by decide +kernel
theorem dX10_readsName_100 : decode cX10_readsName 100 = .ok (.iconst 1, 1) := by decide +kernel
theorem dX10_readsName_101 : decode cX10_readsName 101 = .ok (.goto 4, 3) := by decide +kernel
theorem dX10_readsName_104 : decode cX10_readsName 104 = .ok (.iconst 0, 1) := by decide +kernel
theorem dX10_readsName_105 : decode cX10_readsName 105 = .ok (.invokevirtual 158, 3) := by decide +kernel
theorem dX10_readsName_108 : decode cX10_readsName 108 = .ok (.return_, 1) := by decide +kernel
theorem dX10_readsRef_0 : decode cX10_readsRef 0 = .ok (.aload_n 0, 1) := by decide +kernel
theorem dX10_readsRef_1 : decode cX10_readsRef 1 = .ok (.getfield 141, 3) := by decide +kernel
theorem dX10_readsRef_4 : decode cX10_readsRef 4 = .ok (.ifCond .ne 77, 3) := by decide +kernel
theorem dX10_readsRef_7 : decode cX10_readsRef 7 = .ok (.aload_n 0, 1) := by decide +kernel
theorem dX10_readsRef_8 : decode cX10_readsRef 8 = .ok (.getfield 116, 3) := by decide +kernel
theorem dX10_readsRef_11 : decode cX10_readsRef 11 = .ok (.iconst 1, 1) := by decide +kernel
theorem dX10_readsRef_12 : decode cX10_readsRef 12 = .ok (.if_icmp .ne 69, 3) := by decide +kernel
theorem dX10_readsRef_15 : decode cX10_readsRef 15 = .ok (.aload_n 0, 1) := by decide +kernel
theorem dX10_readsRef_16 : decode cX10_readsRef 16 = .ok (.getfield 32, 3) := by decide +kernel
theorem dX10_readsRef_19 : decode cX10_readsRef 19 = .ok (.aload_n 0, 1) := by decide +kernel
theorem dX10_readsRef_20 : decode cX10_readsRef 20 = .ok (.getfield 194, 3) := by decide +kernel
theorem dX10_readsRef_23 : decode cX10_readsRef 23 = .ok (.aload_n 0, 1) := by decide +kernel
theorem dX10_readsRef_24 : decode cX10_readsRef 24 = .ok (.getfield 107, 3) := by decide +kernel
theorem dX10_readsRef_27 : decode cX10_readsRef 27 = .ok (.iastore, 1) := by decide +kernel
theorem dX10_readsRef_28 : decode cX10_readsRef 28 = .ok (.aload_n 0, 1) := by decide +kernel
theorem dX10_readsRef_29 : decode cX10_readsRef 29 = .ok (.getfield 35, 3) := by decide +kernel
theorem dX10_readsRef_32 : decode cX10_readsRef 32 = .ok (.aload_n 0, 1) := by decide +kernel
theorem dX10_readsRef_33 : decode cX10_readsRef 33 = .ok (.getfield 194, 3) := by decide +kernel
theorem dX10_readsRef_36 : decode cX10_readsRef 36 = .ok (.aload_n 0, 1) := by decide +kernel
theorem dX10_readsRef_37 : decode cX10_readsRef 37 = .ok (.getfield 100, 3) := by decide +kernel
theorem dX10_readsRef_40 : decode cX10_readsRef 40 = .ok (.aload_n 0, 1) := by decide +kernel
theorem dX10_readsRef_41 : decode cX10_readsRef 41 = .ok (.getfield 107, 3) := by decide +kernel
theorem dX10_readsRef_44 : decode cX10_readsRef 44 = .ok (.isub, 1) := by decide +kernel
theorem dX10_readsRef_45 : decode cX10_readsRef 45 = .ok (.iastore, 1) := by decide +kernel
theorem dX10_readsRef_46 : decode cX10_readsRef 46 = .ok (.aload_n 0, 1) := by decide +kernel
theorem dX10_readsRef_47 : decode cX10_readsRef 47 = .ok (.getfield 38, 3) := by decide +kernel
theorem dX10_readsRef_50 : decode cX10_readsRef 50 = .ok (.aload_n 0, 1) := by decide +kernel
theorem dX10_readsRef_51 : decode cX10_readsRef 51 = .ok (.getfield 194, 3) := by decide +kernel
theorem dX10_readsRef_54 : decode cX10_readsRef 54 = .ok (.aload_n 0, 1) := by decide +kernel
theorem dX10_readsRef_55 : decode cX10_readsRef 55 = .ok (.getfield 7, 3) := by decide +kernel
theorem dX10_readsRef_58 : decode cX10_readsRef 58 = .ok (.iconst 5, 1) := by decide +kernel
theorem dX10_readsRef_59 : decode cX10_readsRef 59 = .ok (.iaload, 1) := by decide +kernel
theorem dX10_readsRef_60 : decode cX10_readsRef 60 = .ok (.iastore, 1) := by decide +kernel
theorem dX10_readsRef_61 : decode cX10_readsRef 61 = .ok (.aload_n 0, 1) := by decide +kernel
theorem dX10_readsRef_62 : decode cX10_readsRef 62 = .ok (.getfield 41, 3) := by decide +kernel
theorem dX10_readsRef_65 : decode cX10_readsRef 65 = .ok (.aload_n 0, 1) := by decide +kernel
theorem dX10_readsRef_66 : decode cX10_readsRef 66 = .ok (.getfield 194, 3) := by decide +kernel
theorem dX10_readsRef_69 : decode cX10_readsRef 69 = .ok (.iload_n 1, 1) := by decide +kernel
theorem dX10_readsRef_70 : decode cX10_readsRef 70 = .ok (.bastore, 1) := by decide +kernel
theorem dX10_readsRef_71 : decode cX10_readsRef 71 = .ok (.aload_n 0, 1) := by decide +kernel
theorem dX10_readsRef_72 : decode cX10_readsRef 72 = .ok (.dup, 1) := by decide +kernel
theorem dX10_readsRef_73 : decode cX10_readsRef 73 = .ok (.getfield 194, 3) := by decide +kernel
theorem dX10_readsRef_76 : decode cX10_readsRef 76 = .ok (.iconst 1, 1) := by decide +kernel
theorem dX10_readsRef_77 : decode cX10_readsRef 77 = .ok (.iadd, 1) := by decide +kernel
theorem dX10_readsRef_78 : decode cX10_readsRef 78 = .ok (.putfield 194, 3) := by decide +kernel
theorem dX10_readsRef_81 : decode cX10_readsRef 81 = .ok (.aload_n 0, 1) := by decide +kernel
theorem dX10_readsRef_82 : decode cX10_readsRef 82 = .ok (.aload_n 0, 1) := by decide +kernel
theorem dX10_readsRef_83 : decode cX10_readsRef 83 = .ok (.getfield 141, 3) := by decide +kernel
theorem dX10_readsRef_86 : decode cX10_readsRef 86 = .ok (.ifCond .ne 11, 3) := by decide +kernel
theorem dX10_readsRef_89 : decode cX10_readsRef 89 = .ok (.aload_n 0, 1) := by decide +kernel
theorem dX10_readsRef_90 : decode cX10_readsRef 90 = .ok (.getfield 116, 3) := by decide +kernel
theorem dX10_readsRef_93 : decode cX10_readsRef 93 = .ok (.iconst 1, 1) := by decide +kernel
theorem dX10_readsRef_94 : decode cX10_readsRef 94 = .ok (.if_icmp .ne 7, 3) := by decide +kernel
theorem dX10_readsRef_97 : decode cX10_readsRef 97 = .ok (.iconst 1, 1) := by decide +kernel
theorem dX10_readsRef_98 : decode cX10_readsRef 98 = .ok (.goto 4, 3) := by decide +kernel
theorem dX10_readsRef_101 : decode cX10_readsRef 101 = .ok (.iconst 0, 1) := by decide +kernel
theorem dX10_readsRef_102 : decode cX10_readsRef 102 = .ok (.invokevirtual 158, 3) := by decide +kernel
theorem dX10_readsRef_105 : decode cX10_readsRef 105 = .ok (.return_, 1) := by decide +kernel
theorem dX10_readsOp_0 : decode cX10_readsOp 0 = .ok (.aload_n 0, 1) := by decide +kernel
theorem dX10_readsOp_1 : decode cX10_readsOp 1 = .ok (.getfield 113, 3) := by decide +kernel
theorem dX10_readsOp_4 : decode cX10_readsOp 4 = .ok (.istore_n 1, 1) := by decide +kernel
theorem dX10_readsOp_5 : decode cX10_readsOp 5 = .ok (.aload_n 0, 1) := by decide +kernel
theorem dX10_readsOp_6 : decode cX10_readsOp 6 = .ok (.iload_n 1, 1) := by decide +kernel
theorem dX10_readsOp_7 : decode cX10_readsOp 7 = .ok (.i2l, 1) := by decide +kernel
theorem dX10_readsOp_8 : decode cX10_readsOp 8 = .ok (.lconst 0, 1) := by decide +kernel
theorem dX10_readsOp_9 : decode cX10_readsOp 9 = .ok (.ldc2_w 197, 3) := by decide +kernel
theorem dX10_readsOp_12 : decode cX10_readsOp 12 = .ok (.invokestatic 96, 3) := by decide +kernel
theorem dX10_readsOp_15 : decode cX10_readsOp 15 = .ok (.invokevirtual 158, 3) := by decide +kernel
theorem dX10_readsOp_18 : decode cX10_readsOp 18 = .ok (.aload_n 0, 1) := by decide +kernel
theorem dX10_readsOp_19 : decode cX10_readsOp 19 = .ok (.getfield 7, 3) := by decide +kernel
theorem dX10_readsOp_22 : decode cX10_readsOp 22 = .ok (.bipush 49, 2) := by decide +kernel
theorem dX10_readsOp_24 : decode cX10_readsOp 24 = .ok (.aload_n 0, 1) := by decide +kernel
theorem dX10_readsOp_25 : decode cX10_readsOp 25 = .ok (.getfield 7, 3) := by decide +kernel
theorem dX10_readsOp_28 : decode cX10_readsOp 28 = .ok (.iconst 5, 1) := by decide +kernel
theorem dX10_readsOp_29 : decode cX10_readsOp 29 = .ok (.iaload, 1) := by decide +kernel
theorem dX10_readsOp_30 : decode cX10_readsOp 30 = .ok (.iadd, 1) := by decide +kernel
theorem dX10_readsOp_31 : decode cX10_readsOp 31 = .ok (.iload_n 1, 1) := by decide +kernel
theorem dX10_readsOp_32 : decode cX10_readsOp 32 = .ok (.iastore, 1) := by decide +kernel
theorem dX10_readsOp_33 : decode cX10_readsOp 33 = .ok (.aload_n 0, 1) := by decide +kernel
theorem dX10_readsOp_34 : decode cX10_readsOp 34 = .ok (.getfield 141, 3) := by decide +kernel
theorem dX10_readsOp_37 : decode cX10_readsOp 37 = .ok (.ifCond .ne 9, 3) := by decide +kernel
theorem dX10_readsOp_40 : decode cX10_readsOp 40 = .ok (.iload_n 1, 1) := by decide +kernel
theorem dX10_readsOp_41 : decode cX10_readsOp 41 = .ok (.bipush 7, 2) := by decide +kernel
theorem dX10_readsOp_43 : decode cX10_readsOp 43 = .ok (.if_icmp .ne 4, 3) := by decide +kernel
theorem dX10_readsOp_46 : decode cX10_readsOp 46 = .ok (.return_, 1) := by decide +kernel
theorem dX10_readsOp_47 : decode cX10_readsOp 47 = .ok (.aload_n 0, 1) := by decide +kernel
theorem dX10_readsOp_48 : decode cX10_readsOp 48 = .ok (.iconst 0, 1) := by decide +kernel
theorem dX10_readsOp_49 : decode cX10_readsOp 49 = .ok (.invokevirtual 199, 3) := by decide +kernel
theorem dX10_readsOp_52 : decode cX10_readsOp 52 = .ok (.iload_n 1, 1) := by decide +kernel
theorem dX10_readsOp_53 : decode cX10_readsOp 53 = .ok (.bipush 6, 2) := by decide +kernel
theorem dX10_readsOp_55 : decode cX10_readsOp 55 = .ok (.if_icmp .ne 31, 3) := by decide +kernel
theorem dX10_readsOp_58 : decode cX10_readsOp 58 = .ok (.aload_n 0, 1) := by decide +kernel
theorem dX10_readsOp_59 : decode cX10_readsOp 59 = .ok (.getfield 141, 3) := by decide +kernel
theorem dX10_readsOp_62 : decode cX10_readsOp 62 = .ok (.ifCond .ne 24, 3) := by decide +kernel
theorem dX10_readsOp_65 : decode cX10_readsOp 65 = .ok (.aload_n 0, 1) := by decide +kernel
theorem dX10_readsOp_66 : decode cX10_readsOp 66 = .ok (.getfield 7, 3) := by decide +kernel
theorem dX10_readsOp_69 : decode cX10_readsOp 69 = .ok (.bipush 89, 2) := by decide +kernel
theorem dX10_readsOp_71 : decode cX10_readsOp 71 = .ok (.aload_n 0, 1) := by decide +kernel
theorem dX10_readsOp_72 : decode cX10_readsOp 72 = .ok (.getfield 7, 3) := by decide +kernel
theorem dX10_readsOp_75 : decode cX10_readsOp 75 = .ok (.iconst 5, 1) := by decide +kernel
theorem dX10_readsOp_76 : decode cX10_readsOp 76 = .ok (.iaload, 1) := by decide +kernel
theorem dX10_readsOp_77 : decode cX10_readsOp 77 = .ok (.iadd, 1) := by decide +kernel
theorem dX10_readsOp_78 : decode cX10_readsOp 78 = .ok (.aload_n 0, 1) := by decide +kernel
theorem dX10_readsOp_79 : decode cX10_readsOp 79 = .ok (.iconst 1, 1) := by decide +kernel
theorem dX10_readsOp_80 : decode cX10_readsOp 80 = .ok (.bipush 7, 2) := by decide +kernel
theorem dX10_readsOp_82 : decode cX10_readsOp 82 = .ok (.invokevirtual 166, 3) := by decide +kernel
theorem dX10_readsOp_85 : decode cX10_readsOp 85 = .ok (.iastore, 1) := by decide +kernel
theorem dX10_readsOp_86 : decode cX10_readsOp 86 = .ok (.aload_n 0, 1) := by decide +kernel
theorem dX10_readsOp_87 : decode cX10_readsOp 87 = .ok (.iconst 1, 1) := by decide +kernel
theorem dX10_readsOp_88 : decode cX10_readsOp 88 = .ok (.invokevirtual 199, 3) := by decide +kernel
theorem dX10_readsOp_91 : decode cX10_readsOp 91 = .ok (.return_, 1) := by decide +kernel
theorem dX10_readsItem_0 : decode cX10_readsItem 0 = .ok (.aload_n 0, 1) := by decide +kernel
theorem dX10_readsItem_1 : decode cX10_readsItem 1 = .ok (.getfield 113, 3) := by decide +kernel
theorem dX10_readsItem_4 : decode cX10_readsItem 4 = .ok (.istore_n 1, 1) := by decide +kernel
theorem dX10_readsItem_5 : decode cX10_readsItem 5 = .ok (.iload_n 1, 1) := by decide +kernel
theorem dX10_readsItem_6 : decode cX10_readsItem 6 = .ok (.bipush 9, 2) := by decide +kernel
theorem dX10_readsItem_8 : decode cX10_readsItem 8 = .ok (.if_icmp .eq 17, 3) := by decide +kernel
theorem dX10_readsItem_11 : decode cX10_readsItem 11 = .ok (.iload_n 1, 1) := by decide +kernel
theorem dX10_readsItem_12 : decode cX10_readsItem 12 = .ok (.bipush 10, 2) := by decide +kernel
theorem dX10_readsItem_14 : decode cX10_readsItem 14 = .ok (.if_icmp .eq 11, 3) := by decide +kernel
theorem dX10_readsItem_17 : decode cX10_readsItem 17 = .ok (.aload_n 0, 1) := by decide +kernel
theorem dX10_readsItem_18 : decode cX10_readsItem 18 = .ok (.iconst 1, 1) := by decide +kernel
theorem dX10_readsItem_19 : decode cX10_readsItem 19 = .ok (.invokevirtual 151, 3) := by decide +kernel
theorem dX10_readsItem_22 : decode cX10_readsItem 22 = .ok (.goto 65, 3) := by decide +kernel
theorem dX10_readsItem_25 : decode cX10_readsItem 25 = .ok (.iload_n 1, 1) := by decide +kernel
theorem dX10_readsItem_26 : decode cX10_readsItem 26 = .ok (.bipush 9, 2) := by decide +kernel
theorem dX10_readsItem_28 : decode cX10_readsItem 28 = .ok (.if_icmp .ne 15, 3) := by decide +kernel
theorem dX10_readsItem_31 : decode cX10_readsItem 31 = .ok (.aload_n 0, 1) := by decide +kernel
theorem dX10_readsItem_32 : decode cX10_readsItem 32 = .ok (.getfield 202, 3) := by decide +kernel
theorem dX10_readsItem_35 : decode cX10_readsItem 35 = .ok (.bipush 8, 2) := by decide +kernel
theorem dX10_readsItem_37 : decode cX10_readsItem 37 = .ok (.if_icmp .ne 23, 3) := by decide +kernel
theorem dX10_readsItem_40 : decode cX10_readsItem 40 = .ok (.goto 12, 3) := by decide +kernel
theorem dX10_readsItem_43 : decode cX10_readsItem 43 = .ok (.aload_n 0, 1) := by decide +kernel
theorem dX10_readsItem_44 : decode cX10_readsItem 44 = .ok (.getfield 205, 3) := by decide +kernel
theorem dX10_readsItem_47 : decode cX10_readsItem 47 = .ok (.bipush 12, 2) := by decide +kernel
theorem dX10_readsItem_49 : decode cX10_readsItem 49 = .ok (.if_icmp .ne 11, 3) := by decide +kernel
theorem dX10_readsItem_52 : decode cX10_readsItem 52 = .ok (.aload_n 0, 1) := by decide +kernel
theorem dX10_readsItem_53 : decode cX10_readsItem 53 = .ok (.iconst 3, 1) := by decide +kernel
theorem dX10_readsItem_54 : decode cX10_readsItem 54 = .ok (.invokevirtual 151, 3) := by decide +kernel
theorem dX10_readsItem_57 : decode cX10_readsItem 57 = .ok (.goto 30, 3) := by decide +kernel
theorem dX10_readsItem_60 : decode cX10_readsItem 60 = .ok (.aload_n 0, 1) := by decide +kernel
theorem dX10_readsItem_61 : decode cX10_readsItem 61 = .ok (.getfield 7, 3) := by decide +kernel
theorem dX10_readsItem_64 : decode cX10_readsItem 64 = .ok (.iconst 5, 1) := by decide +kernel
theorem dX10_readsItem_65 : decode cX10_readsItem 65 = .ok (.iaload, 1) := by decide +kernel
theorem dX10_readsItem_66 : decode cX10_readsItem 66 = .ok (.aload_n 0, 1) := by decide +kernel
theorem dX10_readsItem_67 : decode cX10_readsItem 67 = .ok (.getfield 7, 3) := by decide +kernel
theorem dX10_readsItem_70 : decode cX10_readsItem 70 = .ok (.iconst 0, 1) := by decide +kernel
theorem dX10_readsItem_71 : decode cX10_readsItem 71 = .ok (.iaload, 1) := by decide +kernel
theorem dX10_readsItem_72 : decode cX10_readsItem 72 = .ok (.aload_n 0, 1) := by decide +kernel
theorem dX10_readsItem_73 : decode cX10_readsItem 73 = .ok (.getfield 7, 3) := by decide +kernel
theorem dX10_readsItem_76 : decode cX10_readsItem 76 = .ok (.iconst 1, 1) := by decide +kernel
theorem dX10_readsItem_77 : decode cX10_readsItem 77 = .ok (.iaload, 1) := by decide +kernel
theorem dX10_readsItem_78 : decode cX10_readsItem 78 = .ok (.imul, 1) := by decide +kernel
theorem dX10_readsItem_79 : decode cX10_readsItem 79 = .ok (.if_icmp .ne 8, 3) := by decide +kernel
theorem dX10_readsItem_82 : decode cX10_readsItem 82 = .ok (.aload_n 0, 1) := by decide +kernel
theorem dX10_readsItem_83 : decode cX10_readsItem 83 = .ok (.iconst 3, 1) := by decide +kernel
theorem dX10_readsItem_84 : decode cX10_readsItem 84 = .ok (.invokevirtual 151, 3) := by decide +kernel
theorem dX10_readsItem_87 : decode cX10_readsItem 87 = .ok (.aload_n 0, 1) := by decide +kernel
theorem dX10_readsItem_88 : decode cX10_readsItem 88 = .ok (.getfield 141, 3) := by decide +kernel
theorem dX10_readsItem_91 : decode cX10_readsItem 91 = .ok (.ifCond .eq 4, 3) := by decide +kernel
theorem dX10_readsItem_94 : decode cX10_readsItem 94 = .ok (.return_, 1) := by decide +kernel
theorem dX10_readsItem_95 : decode cX10_readsItem 95 = .ok (.aload_n 0, 1) := by decide +kernel
theorem dX10_readsItem_96 : decode cX10_readsItem 96 = .ok (.invokevirtual 155, 3) := by decide +kernel
theorem dX10_readsItem_99 : decode cX10_readsItem 99 = .ok (.aload_n 0, 1) := by decide +kernel
theorem dX10_readsItem_100 : decode cX10_readsItem 100 = .ok (.invokevirtual 208, 3) := by decide +kernel
theorem dX10_readsItem_103 : decode cX10_readsItem 103 = .ok (.aload_n 0, 1) := by decide +kernel
theorem dX10_readsItem_104 : decode cX10_readsItem 104 = .ok (.getfield 7, 3) := by decide +kernel
theorem dX10_readsItem_107 : decode cX10_readsItem 107 = .ok (.iconst 5, 1) := by decide +kernel
theorem dX10_readsItem_108 : decode cX10_readsItem 108 = .ok (.iaload, 1) := by decide +kernel
theorem dX10_readsItem_109 : decode cX10_readsItem 109 = .ok (.istore_n 2, 1) := by decide +kernel
theorem dX10_readsItem_110 : decode cX10_readsItem 110 = .ok (.aload_n 0, 1) := by decide +kernel
theorem dX10_readsItem_111 : decode cX10_readsItem 111 = .ok (.getfield 7, 3) := by decide +kernel
theorem dX10_readsItem_114 : decode cX10_readsItem 114 = .ok (.bipush 9, 2) := by decide +kernel
theorem dX10_readsItem_116 : decode cX10_readsItem 116 = .ok (.iload_n 2, 1) := by decide +kernel
theorem dX10_readsItem_117 : decode cX10_readsItem 117 = .ok (.iadd, 1) := by decide +kernel
theorem dX10_readsItem_118 : decode cX10_readsItem 118 = .ok (.iload_n 1, 1) := by decide +kernel
theorem dX10_readsItem_119 : decode cX10_readsItem 119 = .ok (.bipush 10, 2) := by decide +kernel
theorem dX10_readsItem_121 : decode cX10_readsItem 121 = .ok (.if_icmp .ne 7, 3) := by decide +kernel
theorem dX10_readsItem_124 : decode cX10_readsItem 124 = .ok (.iconst 1, 1) := by decide +kernel
theorem dX10_readsItem_125 : decode cX10_readsItem 125 = .ok (.goto 4, 3) := by decide +kernel
theorem dX10_readsItem_128 : decode cX10_readsItem 128 = .ok (.iconst 0, 1) := by decide +kernel
theorem dX10_readsItem_129 : decode cX10_readsItem 129 = .ok (.iastore, 1) := by decide +kernel
theorem dX10_readsItem_130 : decode cX10_readsItem 130 = .ok (.aload_n 0, 1) := by decide +kernel
theorem dX10_readsItem_131 : decode cX10_readsItem 131 = .ok (.getfield 141, 3) := by decide +kernel
theorem dX10_readsItem_134 : decode cX10_readsItem 134 = .ok (.ifCond .ne 16, 3) := by decide +kernel
theorem dX10_readsItem_137 : decode cX10_readsItem 137 = .ok (.iload_n 1, 1) := by decide +kernel
theorem dX10_readsItem_138 : decode cX10_readsItem 138 = .ok (.bipush 10, 2) := by decide +kernel
theorem dX10_readsItem_140 : decode cX10_readsItem 140 = .ok (.if_icmp .ne 10, 3) := by decide +kernel
theorem dX10_readsItem_143 : decode cX10_readsItem 143 = .ok (.aload_n 0, 1) := by decide +kernel
theorem dX10_readsItem_144 : decode cX10_readsItem 144 = .ok (.invokevirtual 211, 3) := by decide +kernel
theorem dX10_readsItem_147 : decode cX10_readsItem 147 = .ok (.goto 56, 3) := by decide +kernel
theorem dX10_readsItem_150 : decode cX10_readsItem 150 = .ok (.aload_n 0, 1) := by decide +kernel
theorem dX10_readsItem_151 : decode cX10_readsItem 151 = .ok (.getfield 141, 3) := by decide +kernel
theorem dX10_readsItem_154 : decode cX10_readsItem 154 = .ok (.ifCond .ne 49, 3) := by decide +kernel
theorem dX10_readsItem_157 : decode cX10_readsItem 157 = .ok (.aload_n 0, 1) := by decide +kernel
theorem dX10_readsItem_158 : decode cX10_readsItem 158 = .ok (.bipush 45, 2) := by decide +kernel
theorem dX10_readsItem_160 : decode cX10_readsItem 160 = .ok (.invokevirtual 214, 3) := by decide +kernel
theorem dX10_readsItem_163 : decode cX10_readsItem 163 = .ok (.istore_n 3, 1) := by decide +kernel
theorem dX10_readsItem_164 : decode cX10_readsItem 164 = .ok (.iload_n 3, 1) := by decide +kernel
theorem dX10_readsItem_165 : decode cX10_readsItem 165 = .ok (.ifCond .eq 7, 3) := by decide +kernel
theorem dX10_readsItem_168 : decode cX10_readsItem 168 = .ok (.aload_n 0, 1) := by decide +kernel
theorem dX10_readsItem_169 : decode cX10_readsItem 169 = .ok (.invokevirtual 155, 3) := by decide +kernel
theorem dX10_readsItem_172 : decode cX10_readsItem 172 = .ok (.aload_n 0, 1) := by decide +kernel
theorem dX10_readsItem_173 : decode cX10_readsItem 173 = .ok (.iconst 0, 1) := by decide +kernel
theorem dX10_readsItem_174 : decode cX10_readsItem 174 = .ok (.sipush 9999, 3) := by decide +kernel
theorem dX10_readsItem_177 : decode cX10_readsItem 177 = .ok (.invokevirtual 166, 3) := by decide +kernel
theorem dX10_readsItem_180 : decode cX10_readsItem 180 = .ok (.istore 4, 2) := by decide +kernel
theorem dX10_readsItem_182 : decode cX10_readsItem 182 = .ok (.aload_n 0, 1) := by decide +kernel
theorem dX10_readsItem_183 : decode cX10_readsItem 183 = .ok (.getfield 7, 3) := by decide +kernel
theorem dX10_readsItem_186 : decode cX10_readsItem 186 = .ok (.bipush 29, 2) := by decide +kernel
theorem dX10_readsItem_188 : decode cX10_readsItem 188 = .ok (.iload_n 2, 1) := by decide +kernel
theorem dX10_readsItem_189 : decode cX10_readsItem 189 = .ok (.iadd, 1) := by decide +kernel
theorem dX10_readsItem_190 : decode cX10_readsItem 190 = .ok (.iload_n 3, 1) := by decide +kernel
theorem dX10_readsItem_191 : decode cX10_readsItem 191 = .ok (.ifCond .eq 9, 3) := by decide +kernel
theorem dX10_readsItem_194 : decode cX10_readsItem 194 = .ok (.iload 4, 2) := by decide +kernel
theorem dX10_readsItem_196 : decode cX10_readsItem 196 = .ok (.ineg, 1) := by decide +kernel
theorem dX10_readsItem_197 : decode cX10_readsItem 197 = .ok (.goto 5, 3) := by decide +kernel
theorem dX10_readsItem_200 : decode cX10_readsItem 200 = .ok (.iload 4, 2) := by decide +kernel
theorem dX10_readsItem_202 : decode cX10_readsItem 202 = .ok (.iastore, 1) := by decide +kernel
theorem dX10_readsItem_203 : decode cX10_readsItem 203 = .ok (.aload_n 0, 1) := by decide +kernel
theorem dX10_readsItem_204 : decode cX10_readsItem 204 = .ok (.getfield 7, 3) := by decide +kernel
theorem dX10_readsItem_207 : decode cX10_readsItem 207 = .ok (.sipush 129, 3) := by decide +kernel
theorem dX10_readsItem_210 : decode cX10_readsItem 210 = .ok (.iload_n 2, 1) := by decide +kernel
theorem dX10_readsItem_211 : decode cX10_readsItem 211 = .ok (.iadd, 1) := by decide +kernel
theorem dX10_readsItem_212 : decode cX10_readsItem 212 = .ok (.iconst (-1), 1) := by decide +kernel
theorem dX10_readsItem_213 : decode cX10_readsItem 213 = .ok (.iastore, 1) := by decide +kernel
theorem dX10_readsItem_214 : decode cX10_readsItem 214 = .ok (.aload_n 0, 1) := by decide +kernel
theorem dX10_readsItem_215 : decode cX10_readsItem 215 = .ok (.getfield 141, 3) := by decide +kernel
theorem dX10_readsItem_218 : decode cX10_readsItem 218 = .ok (.ifCond .ne 94, 3) := by decide +kernel
theorem dX10_readsItem_221 : decode cX10_readsItem 221 = .ok (.aload_n 0, 1) := by decide +kernel
theorem dX10_readsItem_222 : decode cX10_readsItem 222 = .ok (.getfield 113, 3) := by decide +kernel
theorem dX10_readsItem_225 : decode cX10_readsItem 225 = .ok (.bipush 11, 2) := by decide +kernel
theorem dX10_readsItem_227 : decode cX10_readsItem 227 = .ok (.if_icmp .ne 85, 3) := by decide +kernel
theorem dX10_readsItem_230 : decode cX10_readsItem 230 = .ok (.aload_n 0, 1) := by decide +kernel
theorem dX10_readsItem_231 : decode cX10_readsItem 231 = .ok (.invokevirtual 155, 3) := by decide +kernel
theorem dX10_readsItem_234 : decode cX10_readsItem 234 = .ok (.aload_n 0, 1) := by decide +kernel
theorem dX10_readsItem_235 : decode cX10_readsItem 235 = .ok (.getfield 116, 3) := by decide +kernel
theorem dX10_readsItem_238 : decode cX10_readsItem 238 = .ok (.iconst 2, 1) := by decide +kernel
theorem dX10_readsItem_239 : decode cX10_readsItem 239 = .ok (.if_icmp .ne 39, 3) := by decide +kernel
theorem dX10_readsItem_242 : decode cX10_readsItem 242 = .ok (.aload_n 0, 1) := by decide +kernel
theorem dX10_readsItem_243 : decode cX10_readsItem 243 = .ok (.getfield 110, 3) := by decide +kernel
theorem dX10_readsItem_246 : decode cX10_readsItem 246 = .ok (.i2l, 1) := by decide +kernel
theorem dX10_readsItem_247 : decode cX10_readsItem 247 = .ok (.lconst 0, 1) := by decide +kernel
theorem dX10_readsItem_248 : decode cX10_readsItem 248 = .ok (.aload_n 0, 1) := by decide +kernel
theorem dX10_readsItem_249 : decode cX10_readsItem 249 = .ok (.invokevirtual 218, 3) := by decide +kernel
theorem dX10_readsItem_252 : decode cX10_readsItem 252 = .ok (.iconst 1, 1) := by decide +kernel
theorem dX10_readsItem_253 : decode cX10_readsItem 253 = .ok (.isub, 1) := by decide +kernel
theorem dX10_readsItem_254 : decode cX10_readsItem 254 = .ok (.i2l, 1) := by decide +kernel
theorem dX10_readsItem_255 : decode cX10_readsItem 255 = .ok (.invokestatic 96, 3) := by decide +kernel
theorem dX10_readsItem_258 : decode cX10_readsItem 258 = .ok (.ifCond .eq 20, 3) := by decide +kernel
theorem dX10_readsItem_261 : decode cX10_readsItem 261 = .ok (.aload_n 0, 1) := by decide +kernel
theorem dX10_readsItem_262 : decode cX10_readsItem 262 = .ok (.aload_n 0, 1) := by decide +kernel
theorem dX10_readsItem_263 : decode cX10_readsItem 263 = .ok (.getfield 110, 3) := by decide +kernel
theorem dX10_readsItem_266 : decode cX10_readsItem 266 = .ok (.invokevirtual 221, 3) := by decide +kernel
theorem dX10_readsItem_269 : decode cX10_readsItem 269 = .ok (.iconst (-1), 1) := by decide +kernel
theorem dX10_readsItem_270 : decode cX10_readsItem 270 = .ok (.if_icmp .eq 8, 3) := by decide +kernel
theorem dX10_readsItem_273 : decode cX10_readsItem 273 = .ok (.aload_n 0, 1) := by decide +kernel
theorem dX10_readsItem_274 : decode cX10_readsItem 274 = .ok (.iconst 2, 1) := by decide +kernel
theorem dX10_readsItem_275 : decode cX10_readsItem 275 = .ok (.invokevirtual 151, 3) := by decide +kernel
theorem dX10_readsItem_278 : decode cX10_readsItem 278 = .ok (.aload_n 0, 1) := by decide +kernel
theorem dX10_readsItem_279 : decode cX10_readsItem 279 = .ok (.getfield 141, 3) := by decide +kernel
theorem dX10_readsItem_282 : decode cX10_readsItem 282 = .ok (.ifCond .eq 7, 3) := by decide +kernel
theorem dX10_readsItem_285 : decode cX10_readsItem 285 = .ok (.iconst 0, 1) := by decide +kernel
theorem dX10_readsItem_286 : decode cX10_readsItem 286 = .ok (.goto 14, 3) := by decide +kernel
theorem dX10_readsItem_289 : decode cX10_readsItem 289 = .ok (.aload_n 0, 1) := by decide +kernel
theorem dX10_readsItem_290 : decode cX10_readsItem 290 = .ok (.iconst 0, 1) := by decide +kernel
theorem dX10_readsItem_291 : decode cX10_readsItem 291 = .ok (.aload_n 0, 1) := by decide +kernel
theorem dX10_readsItem_292 : decode cX10_readsItem 292 = .ok (.invokevirtual 218, 3) := by decide +kernel
theorem dX10_readsItem_295 : decode cX10_readsItem 295 = .ok (.iconst 1, 1) := by decide +kernel
theorem dX10_readsItem_296 : decode cX10_readsItem 296 = .ok (.isub, 1) := by decide +kernel
theorem dX10_readsItem_297 : decode cX10_readsItem 297 = .ok (.invokevirtual 166, 3) := by decide +kernel
theorem dX10_readsItem_300 : decode cX10_readsItem 300 = .ok (.istore_n 3, 1) := by decide +kernel
theorem dX10_readsItem_301 : decode cX10_readsItem 301 = .ok (.aload_n 0, 1) := by decide +kernel
theorem dX10_readsItem_302 : decode cX10_readsItem 302 = .ok (.getfield 7, 3) := by decide +kernel
theorem dX10_readsItem_305 : decode cX10_readsItem 305 = .ok (.sipush 129, 3) := by decide +kernel
theorem dX10_readsItem_308 : decode cX10_readsItem 308 = .ok (.iload_n 2, 1) := by decide +kernel
theorem dX10_readsItem_309 : decode cX10_readsItem 309 = .ok (.iadd, 1) := by decide +kernel
theorem dX10_readsItem_310 : decode cX10_readsItem 310 = .ok (.iload_n 3, 1) := by decide +kernel
theorem dX10_readsItem_311 : decode cX10_readsItem 311 = .ok (.iastore, 1) := by decide +kernel
theorem dX10_readsItem_312 : decode cX10_readsItem 312 = .ok (.aload_n 0, 1) := by decide +kernel
theorem dX10_readsItem_313 : decode cX10_readsItem 313 = .ok (.dup, 1) := by decide +kernel
theorem dX10_readsItem_314 : decode cX10_readsItem 314 = .ok (.getfield 202, 3) := by decide +kernel
theorem dX10_readsItem_317 : decode cX10_readsItem 317 = .ok (.iload_n 1, 1) := by decide +kernel
theorem dX10_readsItem_318 : decode cX10_readsItem 318 = .ok (.bipush 9, 2) := by decide +kernel
theorem dX10_readsItem_320 : decode cX10_readsItem 320 = .ok (.if_icmp .ne 7, 3) := by decide +kernel
theorem dX10_readsItem_323 : decode cX10_readsItem 323 = .ok (.iconst 1, 1) := by decide +kernel
theorem dX10_readsItem_324 : decode cX10_readsItem 324 = .ok (.goto 4, 3) := by decide +kernel
theorem dX10_readsItem_327 : decode cX10_readsItem 327 = .ok (.iconst 0, 1) := by decide +kernel
theorem dX10_readsItem_328 : decode cX10_readsItem 328 = .ok (.iadd, 1) := by decide +kernel
theorem dX10_readsItem_329 : decode cX10_readsItem 329 = .ok (.putfield 202, 3) := by decide +kernel
theorem dX10_readsItem_332 : decode cX10_readsItem 332 = .ok (.aload_n 0, 1) := by decide +kernel
theorem dX10_readsItem_333 : decode cX10_readsItem 333 = .ok (.dup, 1) := by decide +kernel
theorem dX10_readsItem_334 : decode cX10_readsItem 334 = .ok (.getfield 205, 3) := by decide +kernel
theorem dX10_readsItem_337 : decode cX10_readsItem 337 = .ok (.iload_n 1, 1) := by decide +kernel
theorem dX10_readsItem_338 : decode cX10_readsItem 338 = .ok (.bipush 10, 2) := by decide +kernel
theorem dX10_readsItem_340 : decode cX10_readsItem 340 = .ok (.if_icmp .ne 7, 3) := by decide +kernel
theorem dX10_readsItem_343 : decode cX10_readsItem 343 = .ok (.iconst 1, 1) := by decide +kernel
theorem dX10_readsItem_344 : decode cX10_readsItem 344 = .ok (.goto 4, 3) := by decide +kernel
theorem dX10_readsItem_347 : decode cX10_readsItem 347 = .ok (.iconst 0, 1) := by decide +kernel
theorem dX10_readsItem_348 : decode cX10_readsItem 348 = .ok (.iadd, 1) := by decide +kernel
theorem dX10_readsItem_349 : decode cX10_readsItem 349 = .ok (.putfield 205, 3) := by decide +kernel
theorem dX10_readsItem_352 : decode cX10_readsItem 352 = .ok (.aload_n 0, 1) := by decide +kernel
theorem dX10_readsItem_353 : decode cX10_readsItem 353 = .ok (.getfield 7, 3) := by decide +kernel
theorem dX10_readsItem_356 : decode cX10_readsItem 356 = .ok (.iconst 5, 1) := by decide +kernel
theorem dX10_readsItem_357 : decode cX10_readsItem 357 = .ok (.dup2, 1) := by decide +kernel
theorem dX10_readsItem_358 : decode cX10_readsItem 358 = .ok (.iaload, 1) := by decide +kernel
theorem dX10_readsItem_359 : decode cX10_readsItem 359 = .ok (.iconst 1, 1) := by decide +kernel
theorem dX10_readsItem_360 : decode cX10_readsItem 360 = .ok (.iadd, 1) := by decide +kernel
theorem dX10_readsItem_361 : decode cX10_readsItem 361 = .ok (.iastore, 1) := by decide +kernel
theorem dX10_readsItem_362 : decode cX10_readsItem 362 = .ok (.return_, 1) := by decide +kernel
theorem dX10_many_0 : decode cX10_many 0 = .ok (.aload_n 0, 1) := by decide +kernel
theorem dX10_many_1 : decode cX10_many 1 = .ok (.getfield 7, 3) := by decide +kernel
theorem dX10_many_4 : decode cX10_many 4 = .ok (.iconst 0, 1) := by decide +kernel
theorem dX10_many_5 : decode cX10_many 5 = .ok (.iaload, 1) := by decide +kernel
theorem dX10_many_6 : decode cX10_many 6 = .ok (.aload_n 0, 1) := by decide +kernel
theorem dX10_many_7 : decode cX10_many 7 = .ok (.getfield 7, 3) := by decide +kernel
theorem dX10_many_10 : decode cX10_many 10 = .ok (.iconst 1, 1) := by decide +kernel
theorem dX10_many_11 : decode cX10_many 11 = .ok (.iaload, 1) := by decide +kernel
theorem dX10_many_12 : decode cX10_many 12 = .ok (.imul, 1) := by decide +kernel
theorem dX10_many_13 : decode cX10_many 13 = .ok (.ireturn, 1) := by decide +kernel
theorem dX10_fixedAt_0 : decode cX10_fixedAt 0 = .ok (.iconst 0, 1) := by decide +kernel
theorem dX10_fixedAt_1 : decode cX10_fixedAt 1 = .ok (.istore_n 2, 1) := by decide +kernel
theorem dX10_fixedAt_2 : decode cX10_fixedAt 2 = .ok (.iload_n 2, 1) := by decide +kernel
theorem dX10_fixedAt_3 : decode cX10_fixedAt 3 = .ok (.aload_n 0, 1) := by decide +kernel
theorem dX10_fixedAt_4 : decode cX10_fixedAt 4 = .ok (.getfield 7, 3) := by decide +kernel
theorem dX10_fixedAt_7 : decode cX10_fixedAt 7 = .ok (.iconst 5, 1) := by decide +kernel
theorem dX10_fixedAt_8 : decode cX10_fixedAt 8 = .ok (.iaload, 1) := by decide +kernel
theorem dX10_fixedAt_9 : decode cX10_fixedAt 9 = .ok (.if_icmp .ge 25, 3) := by decide +kernel
theorem dX10_fixedAt_12 : decode cX10_fixedAt 12 = .ok (.aload_n 0, 1) := by decide +kernel
theorem dX10_fixedAt_13 : decode cX10_fixedAt 13 = .ok (.getfield 7, 3) := by decide +kernel
theorem dX10_fixedAt_16 : decode cX10_fixedAt 16 = .ok (.sipush 129, 3) := by decide +kernel
theorem dX10_fixedAt_19 : decode cX10_fixedAt 19 = .ok (.iload_n 2, 1) := by decide +kernel
theorem dX10_fixedAt_20 : decode cX10_fixedAt 20 = .ok (.iadd, 1) := by decide +kernel
theorem dX10_fixedAt_21 : decode cX10_fixedAt 21 = .ok (.iaload, 1) := by decide +kernel
theorem dX10_fixedAt_22 : decode cX10_fixedAt 22 = .ok (.iload_n 1, 1) := by decide +kernel
theorem dX10_fixedAt_23 : decode cX10_fixedAt 23 = .ok (.if_icmp .ne 5, 3) := by decide +kernel
theorem dX10_fixedAt_26 : decode cX10_fixedAt 26 = .ok (.iload_n 2, 1) := by decide +kernel
theorem dX10_fixedAt_27 : decode cX10_fixedAt 27 = .ok (.ireturn, 1) := by decide +kernel
theorem dX10_fixedAt_28 : decode cX10_fixedAt 28 = .ok (.iinc 2 1, 3) := by decide +kernel
theorem dX10_fixedAt_31 : decode cX10_fixedAt 31 = .ok (.goto (-29), 3) := by decide +kernel
theorem dX10_fixedAt_34 : decode cX10_fixedAt 34 = .ok (.iconst (-1), 1) := by decide +kernel
theorem dX10_fixedAt_35 : decode cX10_fixedAt 35 = .ok (.ireturn, 1) := by decide +kernel
theorem dX10_resolves_0 : decode cX10_resolves 0 = .ok (.iconst 0, 1) := by decide +kernel
theorem dX10_resolves_1 : decode cX10_resolves 1 = .ok (.istore_n 1, 1) := by decide +kernel
theorem dX10_resolves_2 : decode cX10_resolves 2 = .ok (.iload_n 1, 1) := by decide +kernel
theorem dX10_resolves_3 : decode cX10_resolves 3 = .ok (.aload_n 0, 1) := by decide +kernel
theorem dX10_resolves_4 : decode cX10_resolves 4 = .ok (.getfield 194, 3) := by decide +kernel
theorem dX10_resolves_7 : decode cX10_resolves 7 = .ok (.if_icmp .ge 194, 3) := by decide +kernel
theorem dX10_resolves_10 : decode cX10_resolves 10 = .ok (.aload_n 0, 1) := by decide +kernel
theorem dX10_resolves_11 : decode cX10_resolves 11 = .ok (.getfield 141, 3) := by decide +kernel
theorem dX10_resolves_14 : decode cX10_resolves 14 = .ok (.ifCond .ne 187, 3) := by decide +kernel
theorem dX10_resolves_17 : decode cX10_resolves 17 = .ok (.aload_n 0, 1) := by decide +kernel
theorem dX10_resolves_18 : decode cX10_resolves 18 = .ok (.getfield 38, 3) := by decide +kernel
theorem dX10_resolves_21 : decode cX10_resolves 21 = .ok (.iload_n 1, 1) := by decide +kernel
theorem dX10_resolves_22 : decode cX10_resolves 22 = .ok (.iaload, 1) := by decide +kernel
theorem dX10_resolves_23 : decode cX10_resolves 23 = .ok (.istore_n 2, 1) := by decide +kernel
theorem dX10_resolves_24 : decode cX10_resolves 24 = .ok (.aload_n 0, 1) := by decide +kernel
theorem dX10_resolves_25 : decode cX10_resolves 25 = .ok (.aload_n 0, 1) := by decide +kernel
theorem dX10_resolves_26 : decode cX10_resolves 26 = .ok (.getfield 32, 3) := by decide +kernel
theorem dX10_resolves_29 : decode cX10_resolves 29 = .ok (.iload_n 1, 1) := by decide +kernel
theorem dX10_resolves_30 : decode cX10_resolves 30 = .ok (.iaload, 1) := by decide +kernel
theorem dX10_resolves_31 : decode cX10_resolves 31 = .ok (.aload_n 0, 1) := by decide +kernel
theorem dX10_resolves_32 : decode cX10_resolves 32 = .ok (.getfield 35, 3) := by decide +kernel
theorem dX10_resolves_35 : decode cX10_resolves 35 = .ok (.iload_n 1, 1) := by decide +kernel
theorem dX10_resolves_36 : decode cX10_resolves 36 = .ok (.iaload, 1) := by decide +kernel
theorem dX10_resolves_37 : decode cX10_resolves 37 = .ok (.invokevirtual 191, 3) := by decide +kernel
theorem dX10_resolves_40 : decode cX10_resolves 40 = .ok (.istore_n 3, 1) := by decide +kernel
theorem dX10_resolves_41 : decode cX10_resolves 41 = .ok (.iload_n 3, 1) := by decide +kernel
theorem dX10_resolves_42 : decode cX10_resolves 42 = .ok (.iconst (-1), 1) := by decide +kernel
theorem dX10_resolves_43 : decode cX10_resolves 43 = .ok (.if_icmp .eq 20, 3) := by decide +kernel
theorem dX10_resolves_46 : decode cX10_resolves 46 = .ok (.aload_n 0, 1) := by decide +kernel
theorem dX10_resolves_47 : decode cX10_resolves 47 = .ok (.getfield 7, 3) := by decide +kernel
theorem dX10_resolves_50 : decode cX10_resolves 50 = .ok (.bipush 9, 2) := by decide +kernel
theorem dX10_resolves_52 : decode cX10_resolves 52 = .ok (.iload_n 3, 1) := by decide +kernel
theorem dX10_resolves_53 : decode cX10_resolves 53 = .ok (.iadd, 1) := by decide +kernel
theorem dX10_resolves_54 : decode cX10_resolves 54 = .ok (.iaload, 1) := by decide +kernel
theorem dX10_resolves_55 : decode cX10_resolves 55 = .ok (.iconst 1, 1) := by decide +kernel
theorem dX10_resolves_56 : decode cX10_resolves 56 = .ok (.if_icmp .ne 7, 3) := by decide +kernel
theorem dX10_resolves_59 : decode cX10_resolves 59 = .ok (.iconst 1, 1) := by decide +kernel
theorem dX10_resolves_60 : decode cX10_resolves 60 = .ok (.goto 4, 3) := by decide +kernel
theorem dX10_resolves_63 : decode cX10_resolves 63 = .ok (.iconst 0, 1) := by decide +kernel
theorem dX10_resolves_64 : decode cX10_resolves 64 = .ok (.istore 4, 2) := by decide +kernel
theorem dX10_resolves_66 : decode cX10_resolves 66 = .ok (.aload_n 0, 1) := by decide +kernel
theorem dX10_resolves_67 : decode cX10_resolves 67 = .ok (.getfield 7, 3) := by decide +kernel
theorem dX10_resolves_70 : decode cX10_resolves 70 = .ok (.bipush 49, 2) := by decide +kernel
theorem dX10_resolves_72 : decode cX10_resolves 72 = .ok (.iload_n 2, 1) := by decide +kernel
theorem dX10_resolves_73 : decode cX10_resolves 73 = .ok (.iadd, 1) := by decide +kernel
theorem dX10_resolves_74 : decode cX10_resolves 74 = .ok (.iaload, 1) := by decide +kernel
theorem dX10_resolves_75 : decode cX10_resolves 75 = .ok (.istore 5, 2) := by decide +kernel
theorem dX10_resolves_77 : decode cX10_resolves 77 = .ok (.aload_n 0, 1) := by decide +kernel
theorem dX10_resolves_78 : decode cX10_resolves 78 = .ok (.getfield 41, 3) := by decide +kernel
theorem dX10_resolves_81 : decode cX10_resolves 81 = .ok (.iload_n 1, 1) := by decide +kernel
theorem dX10_resolves_82 : decode cX10_resolves 82 = .ok (.baload, 1) := by decide +kernel
theorem dX10_resolves_83 : decode cX10_resolves 83 = .ok (.ifCond .ne 9, 3) := by decide +kernel
theorem dX10_resolves_86 : decode cX10_resolves 86 = .ok (.iload 5, 2) := by decide +kernel
theorem dX10_resolves_88 : decode cX10_resolves 88 = .ok (.iconst 5, 1) := by decide +kernel
theorem dX10_resolves_89 : decode cX10_resolves 89 = .ok (.if_icmp .ne 10, 3) := by decide +kernel
theorem dX10_resolves_92 : decode cX10_resolves 92 = .ok (.iload 4, 2) := by decide +kernel
theorem dX10_resolves_94 : decode cX10_resolves 94 = .ok (.istore 6, 2) := by decide +kernel
theorem dX10_resolves_96 : decode cX10_resolves 96 = .ok (.goto 55, 3) := by decide +kernel
theorem dX10_resolves_99 : decode cX10_resolves 99 = .ok (.iload 5, 2) := by decide +kernel
theorem dX10_resolves_101 : decode cX10_resolves 101 = .ok (.bipush 6, 2) := by decide +kernel
theorem dX10_resolves_103 : decode cX10_resolves 103 = .ok (.if_icmp .ne 31, 3) := by decide +kernel
theorem dX10_resolves_106 : decode cX10_resolves 106 = .ok (.iload 4, 2) := by decide +kernel
theorem dX10_resolves_108 : decode cX10_resolves 108 = .ok (.ifCond .eq 20, 3) := by decide +kernel
theorem dX10_resolves_111 : decode cX10_resolves 111 = .ok (.aload_n 0, 1) := by decide +kernel
theorem dX10_resolves_112 : decode cX10_resolves 112 = .ok (.getfield 7, 3) := by decide +kernel
theorem dX10_resolves_115 : decode cX10_resolves 115 = .ok (.bipush 49, 2) := by decide +kernel
theorem dX10_resolves_117 : decode cX10_resolves 117 = .ok (.iload_n 3, 1) := by decide +kernel
theorem dX10_resolves_118 : decode cX10_resolves 118 = .ok (.iadd, 1) := by decide +kernel
theorem dX10_resolves_119 : decode cX10_resolves 119 = .ok (.iaload, 1) := by decide +kernel
theorem dX10_resolves_120 : decode cX10_resolves 120 = .ok (.iconst 4, 1) := by decide +kernel
theorem dX10_resolves_121 : decode cX10_resolves 121 = .ok (.if_icmp .gt 7, 3) := by decide +kernel
theorem dX10_resolves_124 : decode cX10_resolves 124 = .ok (.iconst 1, 1) := by decide +kernel
theorem dX10_resolves_125 : decode cX10_resolves 125 = .ok (.goto 4, 3) := by decide +kernel
theorem dX10_resolves_128 : decode cX10_resolves 128 = .ok (.iconst 0, 1) := by decide +kernel
theorem dX10_resolves_129 : decode cX10_resolves 129 = .ok (.istore 6, 2) := by decide +kernel
theorem dX10_resolves_131 : decode cX10_resolves 131 = .ok (.goto 20, 3) := by decide +kernel
theorem dX10_resolves_134 : decode cX10_resolves 134 = .ok (.iload_n 3, 1) := by decide +kernel
theorem dX10_resolves_135 : decode cX10_resolves 135 = .ok (.iconst (-1), 1) := by decide +kernel
theorem dX10_resolves_136 : decode cX10_resolves 136 = .ok (.if_icmp .eq 12, 3) := by decide +kernel
theorem dX10_resolves_139 : decode cX10_resolves 139 = .ok (.iload 4, 2) := by decide +kernel
theorem dX10_resolves_141 : decode cX10_resolves 141 = .ok (.ifCond .ne 7, 3) := by decide +kernel
theorem dX10_resolves_144 : decode cX10_resolves 144 = .ok (.iconst 1, 1) := by decide +kernel
theorem dX10_resolves_145 : decode cX10_resolves 145 = .ok (.goto 4, 3) := by decide +kernel
theorem dX10_resolves_148 : decode cX10_resolves 148 = .ok (.iconst 0, 1) := by decide +kernel
theorem dX10_resolves_149 : decode cX10_resolves 149 = .ok (.istore 6, 2) := by decide +kernel
theorem dX10_resolves_151 : decode cX10_resolves 151 = .ok (.iload 6, 2) := by decide +kernel
theorem dX10_resolves_153 : decode cX10_resolves 153 = .ok (.ifCond .ne 18, 3) := by decide +kernel
theorem dX10_resolves_156 : decode cX10_resolves 156 = .ok (.aload_n 0, 1) := by decide +kernel
theorem dX10_resolves_157 : decode cX10_resolves 157 = .ok (.aload_n 0, 1) := by decide +kernel
theorem dX10_resolves_158 : decode cX10_resolves 158 = .ok (.getfield 32, 3) := by decide +kernel
theorem dX10_resolves_161 : decode cX10_resolves 161 = .ok (.iload_n 1, 1) := by decide +kernel
theorem dX10_resolves_162 : decode cX10_resolves 162 = .ok (.iaload, 1) := by decide +kernel
theorem dX10_resolves_163 : decode cX10_resolves 163 = .ok (.putfield 107, 3) := by decide +kernel
theorem dX10_resolves_166 : decode cX10_resolves 166 = .ok (.aload_n 0, 1) := by decide +kernel
theorem dX10_resolves_167 : decode cX10_resolves 167 = .ok (.iconst 4, 1) := by decide +kernel
theorem dX10_resolves_168 : decode cX10_resolves 168 = .ok (.invokevirtual 151, 3) := by decide +kernel
theorem dX10_resolves_171 : decode cX10_resolves 171 = .ok (.aload_n 0, 1) := by decide +kernel
theorem dX10_resolves_172 : decode cX10_resolves 172 = .ok (.getfield 7, 3) := by decide +kernel
theorem dX10_resolves_175 : decode cX10_resolves 175 = .ok (.aload_n 0, 1) := by decide +kernel
theorem dX10_resolves_176 : decode cX10_resolves 176 = .ok (.getfield 41, 3) := by decide +kernel
theorem dX10_resolves_179 : decode cX10_resolves 179 = .ok (.iload_n 1, 1) := by decide +kernel
theorem dX10_resolves_180 : decode cX10_resolves 180 = .ok (.baload, 1) := by decide +kernel
theorem dX10_resolves_181 : decode cX10_resolves 181 = .ok (.ifCond .eq 8, 3) := by decide +kernel
theorem dX10_resolves_184 : decode cX10_resolves 184 = .ok (.bipush 109, 2) := by decide +kernel
theorem dX10_resolves_186 : decode cX10_resolves 186 = .ok (.goto 5, 3) := by decide +kernel
theorem dX10_resolves_189 : decode cX10_resolves 189 = .ok (.bipush 69, 2) := by decide +kernel
theorem dX10_resolves_191 : decode cX10_resolves 191 = .ok (.iload_n 2, 1) := by decide +kernel
theorem dX10_resolves_192 : decode cX10_resolves 192 = .ok (.iadd, 1) := by decide +kernel
theorem dX10_resolves_193 : decode cX10_resolves 193 = .ok (.iload_n 3, 1) := by decide +kernel
theorem dX10_resolves_194 : decode cX10_resolves 194 = .ok (.iastore, 1) := by decide +kernel
theorem dX10_resolves_195 : decode cX10_resolves 195 = .ok (.iinc 1 1, 3) := by decide +kernel
theorem dX10_resolves_198 : decode cX10_resolves 198 = .ok (.goto (-196), 3) := by decide +kernel
theorem dX10_resolves_201 : decode cX10_resolves 201 = .ok (.return_, 1) := by decide +kernel
theorem dX10_drum_0 : decode cX10_drum 0 = .ok (.iconst 0, 1) := by decide +kernel
theorem dX10_drum_1 : decode cX10_drum 1 = .ok (.istore_n 1, 1) := by decide +kernel
theorem dX10_drum_2 : decode cX10_drum 2 = .ok (.iload_n 1, 1) := by decide +kernel
theorem dX10_drum_3 : decode cX10_drum 3 = .ok (.aload_n 0, 1) := by decide +kernel
theorem dX10_drum_4 : decode cX10_drum 4 = .ok (.getfield 7, 3) := by decide +kernel
theorem dX10_drum_7 : decode cX10_drum 7 = .ok (.arraylength, 1) := by decide +kernel
theorem dX10_drum_8 : decode cX10_drum 8 = .ok (.if_icmp .ge 28, 3) := by decide +kernel
theorem dX10_drum_11 : decode cX10_drum 11 = .ok (.aload_n 0, 1) := by decide +kernel
theorem dX10_drum_12 : decode cX10_drum 12 = .ok (.getfield 13, 3) := by decide +kernel
theorem dX10_drum_15 : decode cX10_drum 15 = .ok (.iload_n 1, 1) := by decide +kernel
theorem dX10_drum_16 : decode cX10_drum 16 = .ok (.aload_n 0, 1) := by decide +kernel
theorem dX10_drum_17 : decode cX10_drum 17 = .ok (.getfield 7, 3) := by decide +kernel
theorem dX10_drum_20 : decode cX10_drum 20 = .ok (.iload_n 1, 1) := by decide +kernel
theorem dX10_drum_21 : decode cX10_drum 21 = .ok (.iaload, 1) := by decide +kernel
theorem dX10_drum_22 : decode cX10_drum 22 = .ok (.iastore, 1) := by decide +kernel
theorem dX10_drum_23 : decode cX10_drum 23 = .ok (.aload_n 0, 1) := by decide +kernel
theorem dX10_drum_24 : decode cX10_drum 24 = .ok (.getfield 7, 3) := by decide +kernel
theorem dX10_drum_27 : decode cX10_drum 27 = .ok (.iload_n 1, 1) := by decide +kernel
theorem dX10_drum_28 : decode cX10_drum 28 = .ok (.iconst 0, 1) := by decide +kernel
theorem dX10_drum_29 : decode cX10_drum 29 = .ok (.iastore, 1) := by decide +kernel
theorem dX10_drum_30 : decode cX10_drum 30 = .ok (.iinc 1 1, 3) := by decide +kernel
theorem dX10_drum_33 : decode cX10_drum 33 = .ok (.goto (-31), 3) := by decide +kernel
theorem dX10_drum_36 : decode cX10_drum 36 = .ok (.aload_n 0, 1) := by decide +kernel
theorem dX10_drum_37 : decode cX10_drum 37 = .ok (.iconst 0, 1) := by decide +kernel
theorem dX10_drum_38 : decode cX10_drum 38 = .ok (.putfield 100, 3) := by decide +kernel
theorem dX10_drum_41 : decode cX10_drum 41 = .ok (.aload_n 0, 1) := by decide +kernel
theorem dX10_drum_42 : decode cX10_drum 42 = .ok (.iconst 0, 1) := by decide +kernel
theorem dX10_drum_43 : decode cX10_drum 43 = .ok (.putfield 141, 3) := by decide +kernel
theorem dX10_drum_46 : decode cX10_drum 46 = .ok (.aload_n 0, 1) := by decide +kernel
theorem dX10_drum_47 : decode cX10_drum 47 = .ok (.iconst 0, 1) := by decide +kernel
theorem dX10_drum_48 : decode cX10_drum 48 = .ok (.putfield 145, 3) := by decide +kernel
theorem dX10_drum_51 : decode cX10_drum 51 = .ok (.aload_n 0, 1) := by decide +kernel
theorem dX10_drum_52 : decode cX10_drum 52 = .ok (.iconst (-1), 1) := by decide +kernel
theorem dX10_drum_53 : decode cX10_drum 53 = .ok (.putfield 148, 3) := by decide +kernel
theorem dX10_drum_56 : decode cX10_drum 56 = .ok (.aload_n 0, 1) := by decide +kernel
theorem dX10_drum_57 : decode cX10_drum 57 = .ok (.iconst 0, 1) := by decide +kernel
theorem dX10_drum_58 : decode cX10_drum 58 = .ok (.putfield 194, 3) := by decide +kernel
theorem dX10_drum_61 : decode cX10_drum 61 = .ok (.aload_n 0, 1) := by decide +kernel
theorem dX10_drum_62 : decode cX10_drum 62 = .ok (.iconst 0, 1) := by decide +kernel
theorem dX10_drum_63 : decode cX10_drum 63 = .ok (.putfield 202, 3) := by decide +kernel
theorem dX10_drum_66 : decode cX10_drum 66 = .ok (.aload_n 0, 1) := by decide +kernel
theorem dX10_drum_67 : decode cX10_drum 67 = .ok (.iconst 0, 1) := by decide +kernel
theorem dX10_drum_68 : decode cX10_drum 68 = .ok (.putfield 205, 3) := by decide +kernel
theorem dX10_drum_71 : decode cX10_drum 71 = .ok (.aload_n 0, 1) := by decide +kernel
theorem dX10_drum_72 : decode cX10_drum 72 = .ok (.invokevirtual 155, 3) := by decide +kernel
theorem dX10_drum_75 : decode cX10_drum 75 = .ok (.aload_n 0, 1) := by decide +kernel
theorem dX10_drum_76 : decode cX10_drum 76 = .ok (.getfield 141, 3) := by decide +kernel
theorem dX10_drum_79 : decode cX10_drum 79 = .ok (.ifCond .ne 70, 3) := by decide +kernel
theorem dX10_drum_82 : decode cX10_drum 82 = .ok (.aload_n 0, 1) := by decide +kernel
theorem dX10_drum_83 : decode cX10_drum 83 = .ok (.getfield 116, 3) := by decide +kernel
theorem dX10_drum_86 : decode cX10_drum 86 = .ok (.ifCond .eq 63, 3) := by decide +kernel
theorem dX10_drum_89 : decode cX10_drum 89 = .ok (.aload_n 0, 1) := by decide +kernel
theorem dX10_drum_90 : decode cX10_drum 90 = .ok (.getfield 7, 3) := by decide +kernel
theorem dX10_drum_93 : decode cX10_drum 93 = .ok (.bipush 6, 2) := by decide +kernel
theorem dX10_drum_95 : decode cX10_drum 95 = .ok (.iaload, 1) := by decide +kernel
theorem dX10_drum_96 : decode cX10_drum 96 = .ok (.ifCond .ne 10, 3) := by decide +kernel
theorem dX10_drum_99 : decode cX10_drum 99 = .ok (.aload_n 0, 1) := by decide +kernel
theorem dX10_drum_100 : decode cX10_drum 100 = .ok (.invokevirtual 225, 3) := by decide +kernel
theorem dX10_drum_103 : decode cX10_drum 103 = .ok (.goto 7, 3) := by decide +kernel
theorem dX10_drum_106 : decode cX10_drum 106 = .ok (.aload_n 0, 1) := by decide +kernel
theorem dX10_drum_107 : decode cX10_drum 107 = .ok (.invokevirtual 228, 3) := by decide +kernel
theorem dX10_drum_110 : decode cX10_drum 110 = .ok (.aload_n 0, 1) := by decide +kernel
theorem dX10_drum_111 : decode cX10_drum 111 = .ok (.aload_n 0, 1) := by decide +kernel
theorem dX10_drum_112 : decode cX10_drum 112 = .ok (.getfield 141, 3) := by decide +kernel
theorem dX10_drum_115 : decode cX10_drum 115 = .ok (.ifCond .ne 12, 3) := by decide +kernel
theorem dX10_drum_118 : decode cX10_drum 118 = .ok (.aload_n 0, 1) := by decide +kernel
theorem dX10_drum_119 : decode cX10_drum 119 = .ok (.bipush 59, 2) := by decide +kernel
theorem dX10_drum_121 : decode cX10_drum 121 = .ok (.invokevirtual 214, 3) := by decide +kernel
theorem dX10_drum_124 : decode cX10_drum 124 = .ok (.ifCond .eq 7, 3) := by decide +kernel
theorem dX10_drum_127 : decode cX10_drum 127 = .ok (.iconst 1, 1) := by decide +kernel
theorem dX10_drum_128 : decode cX10_drum 128 = .ok (.goto 4, 3) := by decide +kernel
theorem dX10_drum_131 : decode cX10_drum 131 = .ok (.iconst 0, 1) := by decide +kernel
theorem dX10_drum_132 : decode cX10_drum 132 = .ok (.invokevirtual 158, 3) := by decide +kernel
theorem dX10_drum_135 : decode cX10_drum 135 = .ok (.aload_n 0, 1) := by decide +kernel
theorem dX10_drum_136 : decode cX10_drum 136 = .ok (.getfield 7, 3) := by decide +kernel
theorem dX10_drum_139 : decode cX10_drum 139 = .ok (.bipush 6, 2) := by decide +kernel
theorem dX10_drum_141 : decode cX10_drum 141 = .ok (.dup2, 1) := by decide +kernel
theorem dX10_drum_142 : decode cX10_drum 142 = .ok (.iaload, 1) := by decide +kernel
theorem dX10_drum_143 : decode cX10_drum 143 = .ok (.iconst 1, 1) := by decide +kernel
theorem dX10_drum_144 : decode cX10_drum 144 = .ok (.iadd, 1) := by decide +kernel
theorem dX10_drum_145 : decode cX10_drum 145 = .ok (.iastore, 1) := by decide +kernel
theorem dX10_drum_146 : decode cX10_drum 146 = .ok (.goto (-71), 3) := by decide +kernel
theorem dX10_drum_149 : decode cX10_drum 149 = .ok (.aload_n 0, 1) := by decide +kernel
theorem dX10_drum_150 : decode cX10_drum 150 = .ok (.invokevirtual 231, 3) := by decide +kernel
theorem dX10_drum_153 : decode cX10_drum 153 = .ok (.aload_n 0, 1) := by decide +kernel
theorem dX10_drum_154 : decode cX10_drum 154 = .ok (.iconst 0, 1) := by decide +kernel
theorem dX10_drum_155 : decode cX10_drum 155 = .ok (.putfield 93, 3) := by decide +kernel
theorem dX10_drum_158 : decode cX10_drum 158 = .ok (.aload_n 0, 1) := by decide +kernel
theorem dX10_drum_159 : decode cX10_drum 159 = .ok (.aload_n 0, 1) := by decide +kernel
theorem dX10_drum_160 : decode cX10_drum 160 = .ok (.getfield 145, 3) := by decide +kernel
theorem dX10_drum_163 : decode cX10_drum 163 = .ok (.putfield 234, 3) := by decide +kernel
theorem dX10_drum_166 : decode cX10_drum 166 = .ok (.aload_n 0, 1) := by decide +kernel
theorem dX10_drum_167 : decode cX10_drum 167 = .ok (.aload_n 0, 1) := by decide +kernel
theorem dX10_drum_168 : decode cX10_drum 168 = .ok (.getfield 148, 3) := by decide +kernel
theorem dX10_drum_171 : decode cX10_drum 171 = .ok (.putfield 22, 3) := by decide +kernel
theorem dX10_drum_174 : decode cX10_drum 174 = .ok (.aload_n 0, 1) := by decide +kernel
theorem dX10_drum_175 : decode cX10_drum 175 = .ok (.getfield 141, 3) := by decide +kernel
theorem dX10_drum_178 : decode cX10_drum 178 = .ok (.ifCond .eq 43, 3) := by decide +kernel
theorem dX10_drum_181 : decode cX10_drum 181 = .ok (.iconst 0, 1) := by decide +kernel
theorem dX10_drum_182 : decode cX10_drum 182 = .ok (.istore_n 1, 1) := by decide +kernel
theorem dX10_drum_183 : decode cX10_drum 183 = .ok (.iload_n 1, 1) := by decide +kernel
theorem dX10_drum_184 : decode cX10_drum 184 = .ok (.aload_n 0, 1) := by decide +kernel
theorem dX10_drum_185 : decode cX10_drum 185 = .ok (.getfield 7, 3) := by decide +kernel
theorem dX10_drum_188 : decode cX10_drum 188 = .ok (.arraylength, 1) := by decide +kernel
theorem dX10_drum_189 : decode cX10_drum 189 = .ok (.if_icmp .ge 21, 3) := by decide +kernel
theorem dX10_drum_192 : decode cX10_drum 192 = .ok (.aload_n 0, 1) := by decide +kernel
theorem dX10_drum_193 : decode cX10_drum 193 = .ok (.getfield 7, 3) := by decide +kernel
theorem dX10_drum_196 : decode cX10_drum 196 = .ok (.iload_n 1, 1) := by decide +kernel
theorem dX10_drum_197 : decode cX10_drum 197 = .ok (.aload_n 0, 1) := by decide +kernel
theorem dX10_drum_198 : decode cX10_drum 198 = .ok (.getfield 13, 3) := by decide +kernel
theorem dX10_drum_201 : decode cX10_drum 201 = .ok (.iload_n 1, 1) := by decide +kernel
theorem dX10_drum_202 : decode cX10_drum 202 = .ok (.iaload, 1) := by decide +kernel
theorem dX10_drum_203 : decode cX10_drum 203 = .ok (.iastore, 1) := by decide +kernel
theorem dX10_drum_204 : decode cX10_drum 204 = .ok (.iinc 1 1, 3) := by decide +kernel
theorem dX10_drum_207 : decode cX10_drum 207 = .ok (.goto (-24), 3) := by decide +kernel
theorem dX10_drum_210 : decode cX10_drum 210 = .ok (.aload_n 0, 1) := by decide +kernel
theorem dX10_drum_211 : decode cX10_drum 211 = .ok (.aload_n 0, 1) := by decide +kernel
theorem dX10_drum_212 : decode cX10_drum 212 = .ok (.invokevirtual 237, 3) := by decide +kernel
theorem dX10_drum_215 : decode cX10_drum 215 = .ok (.putfield 202, 3) := by decide +kernel
theorem dX10_drum_218 : decode cX10_drum 218 = .ok (.bipush (-4), 2) := by decide +kernel
theorem dX10_drum_220 : decode cX10_drum 220 = .ok (.ireturn, 1) := by decide +kernel
theorem dX10_drum_221 : decode cX10_drum 221 = .ok (.aload_n 0, 1) := by decide +kernel
theorem dX10_drum_222 : decode cX10_drum 222 = .ok (.getfield 7, 3) := by decide +kernel
theorem dX10_drum_225 : decode cX10_drum 225 = .ok (.bipush 8, 2) := by decide +kernel
theorem dX10_drum_227 : decode cX10_drum 227 = .ok (.iconst (-1), 1) := by decide +kernel
theorem dX10_drum_228 : decode cX10_drum 228 = .ok (.iastore, 1) := by decide +kernel
theorem dX10_drum_229 : decode cX10_drum 229 = .ok (.aload_n 0, 1) := by decide +kernel
theorem dX10_drum_230 : decode cX10_drum 230 = .ok (.getfield 7, 3) := by decide +kernel
theorem dX10_drum_233 : decode cX10_drum 233 = .ok (.iconst 5, 1) := by decide +kernel
theorem dX10_drum_234 : decode cX10_drum 234 = .ok (.iaload, 1) := by decide +kernel
theorem dX10_drum_235 : decode cX10_drum 235 = .ok (.iconst 1, 1) := by decide +kernel
theorem dX10_drum_236 : decode cX10_drum 236 = .ok (.isub, 1) := by decide +kernel
theorem dX10_drum_237 : decode cX10_drum 237 = .ok (.istore_n 1, 1) := by decide +kernel
theorem dX10_drum_238 : decode cX10_drum 238 = .ok (.iload_n 1, 1) := by decide +kernel
theorem dX10_drum_239 : decode cX10_drum 239 = .ok (.ifCond .lt 40, 3) := by decide +kernel
theorem dX10_drum_242 : decode cX10_drum 242 = .ok (.aload_n 0, 1) := by decide +kernel
theorem dX10_drum_243 : decode cX10_drum 243 = .ok (.getfield 7, 3) := by decide +kernel
theorem dX10_drum_246 : decode cX10_drum 246 = .ok (.bipush 8, 2) := by decide +kernel
theorem dX10_drum_248 : decode cX10_drum 248 = .ok (.aload_n 0, 1) := by decide +kernel
theorem dX10_drum_249 : decode cX10_drum 249 = .ok (.getfield 7, 3) := by decide +kernel
theorem dX10_drum_252 : decode cX10_drum 252 = .ok (.bipush 9, 2) := by decide +kernel
theorem dX10_drum_254 : decode cX10_drum 254 = .ok (.iload_n 1, 1) := by decide +kernel
theorem dX10_drum_255 : decode cX10_drum 255 = .ok (.iadd, 1) := by decide +kernel
theorem dX10_drum_256 : decode cX10_drum 256 = .ok (.iaload, 1) := by decide +kernel
theorem dX10_drum_257 : decode cX10_drum 257 = .ok (.iconst 1, 1) := by decide +kernel
theorem dX10_drum_258 : decode cX10_drum 258 = .ok (.if_icmp .ne 7, 3) := by decide +kernel
theorem dX10_drum_261 : decode cX10_drum 261 = .ok (.iload_n 1, 1) := by decide +kernel
theorem dX10_drum_262 : decode cX10_drum 262 = .ok (.goto 10, 3) := by decide +kernel
theorem dX10_drum_265 : decode cX10_drum 265 = .ok (.aload_n 0, 1) := by decide +kernel
theorem dX10_drum_266 : decode cX10_drum 266 = .ok (.getfield 7, 3) := by decide +kernel
theorem dX10_drum_269 : decode cX10_drum 269 = .ok (.bipush 8, 2) := by decide +kernel
theorem dX10_drum_271 : decode cX10_drum 271 = .ok (.iaload, 1) := by decide +kernel
theorem dX10_drum_272 : decode cX10_drum 272 = .ok (.iastore, 1) := by decide +kernel
theorem dX10_drum_273 : decode cX10_drum 273 = .ok (.iinc 1 (-1), 3) := by decide +kernel
theorem dX10_drum_276 : decode cX10_drum 276 = .ok (.goto (-38), 3) := by decide +kernel
theorem dX10_drum_279 : decode cX10_drum 279 = .ok (.aload_n 0, 1) := by decide +kernel
theorem dX10_drum_280 : decode cX10_drum 280 = .ok (.iconst 0, 1) := by decide +kernel
theorem dX10_drum_281 : decode cX10_drum 281 = .ok (.putfield 240, 3) := by decide +kernel
theorem dX10_drum_284 : decode cX10_drum 284 = .ok (.aload_n 0, 1) := by decide +kernel
theorem dX10_drum_285 : decode cX10_drum 285 = .ok (.iconst 0, 1) := by decide +kernel
theorem dX10_drum_286 : decode cX10_drum 286 = .ok (.invokevirtual 243, 3) := by decide +kernel
theorem dX10_drum_289 : decode cX10_drum 289 = .ok (.aload_n 0, 1) := by decide +kernel
theorem dX10_drum_290 : decode cX10_drum 290 = .ok (.invokevirtual 246, 3) := by decide +kernel
theorem dX10_drum_293 : decode cX10_drum 293 = .ok (.aload_n 0, 1) := by decide +kernel
theorem dX10_drum_294 : decode cX10_drum 294 = .ok (.getfield 7, 3) := by decide +kernel
theorem dX10_drum_297 : decode cX10_drum 297 = .ok (.bipush 6, 2) := by decide +kernel
theorem dX10_drum_299 : decode cX10_drum 299 = .ok (.iaload, 1) := by decide +kernel
theorem dX10_drum_300 : decode cX10_drum 300 = .ok (.ireturn, 1) := by decide +kernel
theorem dX10_wordsOf_0 : decode cX10_wordsOf 0 = .ok (.iconst 0, 1) := by decide +kernel
theorem dX10_wordsOf_1 : decode cX10_wordsOf 1 = .ok (.istore_n 1, 1) := by decide +kernel
theorem dX10_wordsOf_2 : decode cX10_wordsOf 2 = .ok (.iconst 0, 1) := by decide +kernel
theorem dX10_wordsOf_3 : decode cX10_wordsOf 3 = .ok (.istore_n 2, 1) := by decide +kernel
theorem dX10_wordsOf_4 : decode cX10_wordsOf 4 = .ok (.iload_n 2, 1) := by decide +kernel
theorem dX10_wordsOf_5 : decode cX10_wordsOf 5 = .ok (.aload_n 0, 1) := by decide +kernel
theorem dX10_wordsOf_6 : decode cX10_wordsOf 6 = .ok (.getfield 7, 3) := by decide +kernel
theorem dX10_wordsOf_9 : decode cX10_wordsOf 9 = .ok (.iconst 5, 1) := by decide +kernel
theorem dX10_wordsOf_10 : decode cX10_wordsOf 10 = .ok (.iaload, 1) := by decide +kernel
theorem dX10_wordsOf_11 : decode cX10_wordsOf 11 = .ok (.if_icmp .ge 23, 3) := by decide +kernel
theorem dX10_wordsOf_14 : decode cX10_wordsOf 14 = .ok (.iload_n 1, 1) := by decide +kernel
theorem dX10_wordsOf_15 : decode cX10_wordsOf 15 = .ok (.iconst 1, 1) := by decide +kernel
theorem dX10_wordsOf_16 : decode cX10_wordsOf 16 = .ok (.aload_n 0, 1) := by decide +kernel
theorem dX10_wordsOf_17 : decode cX10_wordsOf 17 = .ok (.getfield 7, 3) := by decide +kernel
theorem dX10_wordsOf_20 : decode cX10_wordsOf 20 = .ok (.bipush 9, 2) := by decide +kernel
theorem dX10_wordsOf_22 : decode cX10_wordsOf 22 = .ok (.iload_n 2, 1) := by decide +kernel
theorem dX10_wordsOf_23 : decode cX10_wordsOf 23 = .ok (.iadd, 1) := by decide +kernel
theorem dX10_wordsOf_24 : decode cX10_wordsOf 24 = .ok (.iaload, 1) := by decide +kernel
theorem dX10_wordsOf_25 : decode cX10_wordsOf 25 = .ok (.isub, 1) := by decide +kernel
theorem dX10_wordsOf_26 : decode cX10_wordsOf 26 = .ok (.iadd, 1) := by decide +kernel
theorem dX10_wordsOf_27 : decode cX10_wordsOf 27 = .ok (.istore_n 1, 1) := by decide +kernel
theorem dX10_wordsOf_28 : decode cX10_wordsOf 28 = .ok (.iinc 2 1, 3) := by decide +kernel
theorem dX10_wordsOf_31 : decode cX10_wordsOf 31 = .ok (.goto (-27), 3) := by decide +kernel
theorem dX10_wordsOf_34 : decode cX10_wordsOf 34 = .ok (.iload_n 1, 1) := by decide +kernel
theorem dX10_wordsOf_35 : decode cX10_wordsOf 35 = .ok (.ireturn, 1) := by decide +kernel
theorem dX10_fault_0 : decode cX10_fault 0 = .ok (.iload_n 1, 1) := by decide +kernel
theorem dX10_fault_1 : decode cX10_fault 1 = .ok (.ifCond .ne 10, 3) := by decide +kernel
theorem dX10_fault_4 : decode cX10_fault 4 = .ok (.aload_n 0, 1) := by decide +kernel
theorem dX10_fault_5 : decode cX10_fault 5 = .ok (.getfield 234, 3) := by decide +kernel
theorem dX10_fault_8 : decode cX10_fault 8 = .ok (.goto 16, 3) := by decide +kernel
theorem dX10_fault_11 : decode cX10_fault 11 = .ok (.iload_n 1, 1) := by decide +kernel
theorem dX10_fault_12 : decode cX10_fault 12 = .ok (.iconst 1, 1) := by decide +kernel
theorem dX10_fault_13 : decode cX10_fault 13 = .ok (.if_icmp .ne 10, 3) := by decide +kernel
theorem dX10_fault_16 : decode cX10_fault 16 = .ok (.aload_n 0, 1) := by decide +kernel
theorem dX10_fault_17 : decode cX10_fault 17 = .ok (.getfield 22, 3) := by decide +kernel
theorem dX10_fault_20 : decode cX10_fault 20 = .ok (.goto 4, 3) := by decide +kernel
theorem dX10_fault_23 : decode cX10_fault 23 = .ok (.iconst (-1), 1) := by decide +kernel
theorem dX10_fault_24 : decode cX10_fault 24 = .ok (.ireturn, 1) := by decide +kernel
theorem dX10_freeItems_0 : decode cX10_freeItems 0 = .ok (.iconst 0, 1) := by decide +kernel
theorem dX10_freeItems_1 : decode cX10_freeItems 1 = .ok (.istore_n 1, 1) := by decide +kernel
theorem dX10_freeItems_2 : decode cX10_freeItems 2 = .ok (.iconst 0, 1) := by decide +kernel
theorem dX10_freeItems_3 : decode cX10_freeItems 3 = .ok (.istore_n 2, 1) := by decide +kernel
theorem dX10_freeItems_4 : decode cX10_freeItems 4 = .ok (.iload_n 2, 1) := by decide +kernel
theorem dX10_freeItems_5 : decode cX10_freeItems 5 = .ok (.aload_n 0, 1) := by decide +kernel
theorem dX10_freeItems_6 : decode cX10_freeItems 6 = .ok (.getfield 7, 3) := by decide +kernel
theorem dX10_freeItems_9 : decode cX10_freeItems 9 = .ok (.iconst 5, 1) := by decide +kernel
theorem dX10_freeItems_10 : decode cX10_freeItems 10 = .ok (.iaload, 1) := by decide +kernel
theorem dX10_freeItems_11 : decode cX10_freeItems 11 = .ok (.if_icmp .ge 31, 3) := by decide +kernel
theorem dX10_freeItems_14 : decode cX10_freeItems 14 = .ok (.iload_n 1, 1) := by decide +kernel
theorem dX10_freeItems_15 : decode cX10_freeItems 15 = .ok (.aload_n 0, 1) := by decide +kernel
theorem dX10_freeItems_16 : decode cX10_freeItems 16 = .ok (.getfield 7, 3) := by decide +kernel
theorem dX10_freeItems_19 : decode cX10_freeItems 19 = .ok (.sipush 129, 3) := by decide +kernel
theorem dX10_freeItems_22 : decode cX10_freeItems 22 = .ok (.iload_n 2, 1) := by decide +kernel
theorem dX10_freeItems_23 : decode cX10_freeItems 23 = .ok (.iadd, 1) := by decide +kernel
theorem dX10_freeItems_24 : decode cX10_freeItems 24 = .ok (.iaload, 1) := by decide +kernel
theorem dX10_freeItems_25 : decode cX10_freeItems 25 = .ok (.iconst (-1), 1) := by decide +kernel
theorem dX10_freeItems_26 : decode cX10_freeItems 26 = .ok (.if_icmp .ne 7, 3) := by decide +kernel
theorem dX10_freeItems_29 : decode cX10_freeItems 29 = .ok (.iconst 1, 1) := by decide +kernel
theorem dX10_freeItems_30 : decode cX10_freeItems 30 = .ok (.goto 4, 3) := by decide +kernel
theorem dX10_freeItems_33 : decode cX10_freeItems 33 = .ok (.iconst 0, 1) := by decide +kernel
theorem dX10_freeItems_34 : decode cX10_freeItems 34 = .ok (.iadd, 1) := by decide +kernel
theorem dX10_freeItems_35 : decode cX10_freeItems 35 = .ok (.istore_n 1, 1) := by decide +kernel
theorem dX10_freeItems_36 : decode cX10_freeItems 36 = .ok (.iinc 2 1, 3) := by decide +kernel
theorem dX10_freeItems_39 : decode cX10_freeItems 39 = .ok (.goto (-35), 3) := by decide +kernel
theorem dX10_freeItems_42 : decode cX10_freeItems 42 = .ok (.iload_n 1, 1) := by decide +kernel
theorem dX10_freeItems_43 : decode cX10_freeItems 43 = .ok (.ireturn, 1) := by decide +kernel
theorem dX10_count_0 : decode cX10_count 0 = .ok (.iload_n 1, 1) := by decide +kernel
theorem dX10_count_1 : decode cX10_count 1 = .ok (.tableswitch 109 0 10 #[59, 59, 59, 59, 59, 66, 71, 83, 88, 96, 104], 59) := by decide +kernel
theorem dX10_count_60 : decode cX10_count 60 = .ok (.aload_n 0, 1) := by decide +kernel
theorem dX10_count_61 : decode cX10_count 61 = .ok (.getfield 7, 3) := by decide +kernel
theorem dX10_count_64 : decode cX10_count 64 = .ok (.iload_n 1, 1) := by decide +kernel
theorem dX10_count_65 : decode cX10_count 65 = .ok (.iaload, 1) := by decide +kernel
theorem dX10_count_66 : decode cX10_count 66 = .ok (.ireturn, 1) := by decide +kernel
theorem dX10_count_67 : decode cX10_count 67 = .ok (.aload_n 0, 1) := by decide +kernel
theorem dX10_count_68 : decode cX10_count 68 = .ok (.invokevirtual 237, 3) := by decide +kernel
theorem dX10_count_71 : decode cX10_count 71 = .ok (.ireturn, 1) := by decide +kernel
theorem dX10_count_72 : decode cX10_count 72 = .ok (.aload_n 0, 1) := by decide +kernel
theorem dX10_count_73 : decode cX10_count 73 = .ok (.getfield 7, 3) := by decide +kernel
theorem dX10_count_76 : decode cX10_count 76 = .ok (.iconst 5, 1) := by decide +kernel
theorem dX10_count_77 : decode cX10_count 77 = .ok (.iaload, 1) := by decide +kernel
theorem dX10_count_78 : decode cX10_count 78 = .ok (.aload_n 0, 1) := by decide +kernel
theorem dX10_count_79 : decode cX10_count 79 = .ok (.invokevirtual 237, 3) := by decide +kernel
theorem dX10_count_82 : decode cX10_count 82 = .ok (.isub, 1) := by decide +kernel
theorem dX10_count_83 : decode cX10_count 83 = .ok (.ireturn, 1) := by decide +kernel
theorem dX10_count_84 : decode cX10_count 84 = .ok (.aload_n 0, 1) := by decide +kernel
theorem dX10_count_85 : decode cX10_count 85 = .ok (.invokevirtual 249, 3) := by decide +kernel
theorem dX10_count_88 : decode cX10_count 88 = .ok (.ireturn, 1) := by decide +kernel
theorem dX10_count_89 : decode cX10_count 89 = .ok (.aload_n 0, 1) := by decide +kernel
theorem dX10_count_90 : decode cX10_count 90 = .ok (.getfield 7, 3) := by decide +kernel
theorem dX10_count_93 : decode cX10_count 93 = .ok (.bipush 7, 2) := by decide +kernel
theorem dX10_count_95 : decode cX10_count 95 = .ok (.iaload, 1) := by decide +kernel
theorem dX10_count_96 : decode cX10_count 96 = .ok (.ireturn, 1) := by decide +kernel
theorem dX10_count_97 : decode cX10_count 97 = .ok (.aload_n 0, 1) := by decide +kernel
theorem dX10_count_98 : decode cX10_count 98 = .ok (.getfield 7, 3) := by decide +kernel
theorem dX10_count_101 : decode cX10_count 101 = .ok (.bipush 6, 2) := by decide +kernel
theorem dX10_count_103 : decode cX10_count 103 = .ok (.iaload, 1) := by decide +kernel
theorem dX10_count_104 : decode cX10_count 104 = .ok (.ireturn, 1) := by decide +kernel
theorem dX10_count_105 : decode cX10_count 105 = .ok (.aload_n 0, 1) := by decide +kernel
theorem dX10_count_106 : decode cX10_count 106 = .ok (.getfield 93, 3) := by decide +kernel
theorem dX10_count_109 : decode cX10_count 109 = .ok (.ireturn, 1) := by decide +kernel
theorem dX10_count_110 : decode cX10_count 110 = .ok (.iconst (-1), 1) := by decide +kernel
theorem dX10_count_111 : decode cX10_count 111 = .ok (.ireturn, 1) := by decide +kernel
theorem dX10_isItem_0 : decode cX10_isItem 0 = .ok (.iload_n 1, 1) := by decide +kernel
theorem dX10_isItem_1 : decode cX10_isItem 1 = .ok (.i2l, 1) := by decide +kernel
theorem dX10_isItem_2 : decode cX10_isItem 2 = .ok (.lconst 0, 1) := by decide +kernel
theorem dX10_isItem_3 : decode cX10_isItem 3 = .ok (.aload_n 0, 1) := by decide +kernel
theorem dX10_isItem_4 : decode cX10_isItem 4 = .ok (.getfield 7, 3) := by decide +kernel
theorem dX10_isItem_7 : decode cX10_isItem 7 = .ok (.iconst 5, 1) := by decide +kernel
theorem dX10_isItem_8 : decode cX10_isItem 8 = .ok (.iaload, 1) := by decide +kernel
theorem dX10_isItem_9 : decode cX10_isItem 9 = .ok (.iconst 1, 1) := by decide +kernel
theorem dX10_isItem_10 : decode cX10_isItem 10 = .ok (.isub, 1) := by decide +kernel
theorem dX10_isItem_11 : decode cX10_isItem 11 = .ok (.i2l, 1) := by decide +kernel
theorem dX10_isItem_12 : decode cX10_isItem 12 = .ok (.invokestatic 96, 3) := by decide +kernel
theorem dX10_isItem_15 : decode cX10_isItem 15 = .ok (.ireturn, 1) := by decide +kernel
theorem dX10_item_0 : decode cX10_item 0 = .ok (.aload_n 0, 1) := by decide +kernel
theorem dX10_item_1 : decode cX10_item 1 = .ok (.iload_n 1, 1) := by decide +kernel
theorem dX10_item_2 : decode cX10_item 2 = .ok (.invokevirtual 252, 3) := by decide +kernel
theorem dX10_item_5 : decode cX10_item 5 = .ok (.ifCond .ne 6, 3) := by decide +kernel
theorem dX10_item_8 : decode cX10_item 8 = .ok (.bipush (-2), 2) := by decide +kernel
theorem dX10_item_10 : decode cX10_item 10 = .ok (.ireturn, 1) := by decide +kernel
theorem dX10_item_11 : decode cX10_item 11 = .ok (.iload_n 2, 1) := by decide +kernel
theorem dX10_item_12 : decode cX10_item 12 = .ok (.tableswitch 100 0 3 #[32, 42, 53, 73], 32) := by decide +kernel
theorem dX10_item_44 : decode cX10_item 44 = .ok (.aload_n 0, 1) := by decide +kernel
theorem dX10_item_45 : decode cX10_item 45 = .ok (.getfield 7, 3) := by decide +kernel
theorem dX10_item_48 : decode cX10_item 48 = .ok (.bipush 9, 2) := by decide +kernel
theorem dX10_item_50 : decode cX10_item 50 = .ok (.iload_n 1, 1) := by decide +kernel
theorem dX10_item_51 : decode cX10_item 51 = .ok (.iadd, 1) := by decide +kernel
theorem dX10_item_52 : decode cX10_item 52 = .ok (.iaload, 1) := by decide +kernel
theorem dX10_item_53 : decode cX10_item 53 = .ok (.ireturn, 1) := by decide +kernel
theorem dX10_item_54 : decode cX10_item 54 = .ok (.aload_n 0, 1) := by decide +kernel
theorem dX10_item_55 : decode cX10_item 55 = .ok (.getfield 7, 3) := by decide +kernel
theorem dX10_item_58 : decode cX10_item 58 = .ok (.sipush 149, 3) := by decide +kernel
theorem dX10_item_61 : decode cX10_item 61 = .ok (.iload_n 1, 1) := by decide +kernel
theorem dX10_item_62 : decode cX10_item 62 = .ok (.iadd, 1) := by decide +kernel
theorem dX10_item_63 : decode cX10_item 63 = .ok (.iaload, 1) := by decide +kernel
theorem dX10_item_64 : decode cX10_item 64 = .ok (.ireturn, 1) := by decide +kernel
theorem dX10_item_65 : decode cX10_item 65 = .ok (.aload_n 0, 1) := by decide +kernel
theorem dX10_item_66 : decode cX10_item 66 = .ok (.getfield 7, 3) := by decide +kernel
theorem dX10_item_69 : decode cX10_item 69 = .ok (.sipush 129, 3) := by decide +kernel
theorem dX10_item_72 : decode cX10_item 72 = .ok (.iload_n 1, 1) := by decide +kernel
theorem dX10_item_73 : decode cX10_item 73 = .ok (.iadd, 1) := by decide +kernel
theorem dX10_item_74 : decode cX10_item 74 = .ok (.iaload, 1) := by decide +kernel
theorem dX10_item_75 : decode cX10_item 75 = .ok (.iconst (-1), 1) := by decide +kernel
theorem dX10_item_76 : decode cX10_item 76 = .ok (.if_icmp .ne 7, 3) := by decide +kernel
theorem dX10_item_79 : decode cX10_item 79 = .ok (.iconst 0, 1) := by decide +kernel
theorem dX10_item_80 : decode cX10_item 80 = .ok (.goto 4, 3) := by decide +kernel
theorem dX10_item_83 : decode cX10_item 83 = .ok (.iconst 1, 1) := by decide +kernel
theorem dX10_item_84 : decode cX10_item 84 = .ok (.ireturn, 1) := by decide +kernel
theorem dX10_item_85 : decode cX10_item 85 = .ok (.aload_n 0, 1) := by decide +kernel
theorem dX10_item_86 : decode cX10_item 86 = .ok (.getfield 7, 3) := by decide +kernel
theorem dX10_item_89 : decode cX10_item 89 = .ok (.bipush 9, 2) := by decide +kernel
theorem dX10_item_91 : decode cX10_item 91 = .ok (.iload_n 1, 1) := by decide +kernel
theorem dX10_item_92 : decode cX10_item 92 = .ok (.iadd, 1) := by decide +kernel
theorem dX10_item_93 : decode cX10_item 93 = .ok (.iaload, 1) := by decide +kernel
theorem dX10_item_94 : decode cX10_item 94 = .ok (.iconst 1, 1) := by decide +kernel
theorem dX10_item_95 : decode cX10_item 95 = .ok (.if_icmp .ne 15, 3) := by decide +kernel
theorem dX10_item_98 : decode cX10_item 98 = .ok (.aload_n 0, 1) := by decide +kernel
theorem dX10_item_99 : decode cX10_item 99 = .ok (.getfield 7, 3) := by decide +kernel
theorem dX10_item_102 : decode cX10_item 102 = .ok (.bipush 49, 2) := by decide +kernel
theorem dX10_item_104 : decode cX10_item 104 = .ok (.iload_n 1, 1) := by decide +kernel
theorem dX10_item_105 : decode cX10_item 105 = .ok (.iadd, 1) := by decide +kernel
theorem dX10_item_106 : decode cX10_item 106 = .ok (.iaload, 1) := by decide +kernel
theorem dX10_item_107 : decode cX10_item 107 = .ok (.goto 4, 3) := by decide +kernel
theorem dX10_item_110 : decode cX10_item 110 = .ok (.iconst (-1), 1) := by decide +kernel
theorem dX10_item_111 : decode cX10_item 111 = .ok (.ireturn, 1) := by decide +kernel
theorem dX10_item_112 : decode cX10_item 112 = .ok (.bipush (-2), 2) := by decide +kernel
theorem dX10_item_114 : decode cX10_item 114 = .ok (.ireturn, 1) := by decide +kernel
theorem dX10_itemAt_0 : decode cX10_itemAt 0 = .ok (.iconst 0, 1) := by decide +kernel
theorem dX10_itemAt_1 : decode cX10_itemAt 1 = .ok (.istore_n 2, 1) := by decide +kernel
theorem dX10_itemAt_2 : decode cX10_itemAt 2 = .ok (.iload_n 2, 1) := by decide +kernel
theorem dX10_itemAt_3 : decode cX10_itemAt 3 = .ok (.aload_n 0, 1) := by decide +kernel
theorem dX10_itemAt_4 : decode cX10_itemAt 4 = .ok (.getfield 7, 3) := by decide +kernel
theorem dX10_itemAt_7 : decode cX10_itemAt 7 = .ok (.iconst 5, 1) := by decide +kernel
theorem dX10_itemAt_8 : decode cX10_itemAt 8 = .ok (.iaload, 1) := by decide +kernel
theorem dX10_itemAt_9 : decode cX10_itemAt 9 = .ok (.if_icmp .ge 25, 3) := by decide +kernel
theorem dX10_itemAt_12 : decode cX10_itemAt 12 = .ok (.aload_n 0, 1) := by decide +kernel
theorem dX10_itemAt_13 : decode cX10_itemAt 13 = .ok (.getfield 7, 3) := by decide +kernel
theorem dX10_itemAt_16 : decode cX10_itemAt 16 = .ok (.sipush 149, 3) := by decide +kernel
theorem dX10_itemAt_19 : decode cX10_itemAt 19 = .ok (.iload_n 2, 1) := by decide +kernel
theorem dX10_itemAt_20 : decode cX10_itemAt 20 = .ok (.iadd, 1) := by decide +kernel
theorem dX10_itemAt_21 : decode cX10_itemAt 21 = .ok (.iaload, 1) := by decide +kernel
theorem dX10_itemAt_22 : decode cX10_itemAt 22 = .ok (.iload_n 1, 1) := by decide +kernel
theorem dX10_itemAt_23 : decode cX10_itemAt 23 = .ok (.if_icmp .ne 5, 3) := by decide +kernel
theorem dX10_itemAt_26 : decode cX10_itemAt 26 = .ok (.iload_n 2, 1) := by decide +kernel
theorem dX10_itemAt_27 : decode cX10_itemAt 27 = .ok (.ireturn, 1) := by decide +kernel
theorem dX10_itemAt_28 : decode cX10_itemAt 28 = .ok (.iinc 2 1, 3) := by decide +kernel
theorem dX10_itemAt_31 : decode cX10_itemAt 31 = .ok (.goto (-29), 3) := by decide +kernel
theorem dX10_itemAt_34 : decode cX10_itemAt 34 = .ok (.iconst (-1), 1) := by decide +kernel
theorem dX10_itemAt_35 : decode cX10_itemAt 35 = .ok (.ireturn, 1) := by decide +kernel
theorem dX10_at_0 : decode cX10_at 0 = .ok (.iload_n 1, 1) := by decide +kernel
theorem dX10_at_1 : decode cX10_at 1 = .ok (.i2l, 1) := by decide +kernel
theorem dX10_at_2 : decode cX10_at 2 = .ok (.lconst 0, 1) := by decide +kernel
theorem dX10_at_3 : decode cX10_at 3 = .ok (.aload_n 0, 1) := by decide +kernel
theorem dX10_at_4 : decode cX10_at 4 = .ok (.invokevirtual 218, 3) := by decide +kernel
theorem dX10_at_7 : decode cX10_at 7 = .ok (.iconst 1, 1) := by decide +kernel
theorem dX10_at_8 : decode cX10_at 8 = .ok (.isub, 1) := by decide +kernel
theorem dX10_at_9 : decode cX10_at 9 = .ok (.i2l, 1) := by decide +kernel
theorem dX10_at_10 : decode cX10_at 10 = .ok (.invokestatic 96, 3) := by decide +kernel
theorem dX10_at_13 : decode cX10_at 13 = .ok (.ifCond .eq 11, 3) := by decide +kernel
theorem dX10_at_16 : decode cX10_at 16 = .ok (.aload_n 0, 1) := by decide +kernel
theorem dX10_at_17 : decode cX10_at 17 = .ok (.iload_n 1, 1) := by decide +kernel
theorem dX10_at_18 : decode cX10_at 18 = .ok (.invokevirtual 255, 3) := by decide +kernel
theorem dX10_at_21 : decode cX10_at 21 = .ok (.goto 5, 3) := by decide +kernel
theorem dX10_at_24 : decode cX10_at 24 = .ok (.bipush (-2), 2) := by decide +kernel
theorem dX10_at_26 : decode cX10_at 26 = .ok (.ireturn, 1) := by decide +kernel
theorem dX10_rounded_0 : decode cX10_rounded 0 = .ok (.iload_n 0, 1) := by decide +kernel
theorem dX10_rounded_1 : decode cX10_rounded 1 = .ok (.sipush 10000, 3) := by decide +kernel
theorem dX10_rounded_4 : decode cX10_rounded 4 = .ok (.iadd, 1) := by decide +kernel
theorem dX10_rounded_5 : decode cX10_rounded 5 = .ok (.sipush 20000, 3) := by decide +kernel
theorem dX10_rounded_8 : decode cX10_rounded 8 = .ok (.invokestatic 258, 3) := by decide +kernel
theorem dX10_rounded_11 : decode cX10_rounded 11 = .ok (.sipush 10000, 3) := by decide +kernel
theorem dX10_rounded_14 : decode cX10_rounded 14 = .ok (.isub, 1) := by decide +kernel
theorem dX10_rounded_15 : decode cX10_rounded 15 = .ok (.ireturn, 1) := by decide +kernel
theorem dX10_reading_0 : decode cX10_reading 0 = .ok (.aload_n 0, 1) := by decide +kernel
theorem dX10_reading_1 : decode cX10_reading 1 = .ok (.getfield 45, 3) := by decide +kernel
theorem dX10_reading_4 : decode cX10_reading 4 = .ok (.aload_n 0, 1) := by decide +kernel
theorem dX10_reading_5 : decode cX10_reading 5 = .ok (.getfield 261, 3) := by decide +kernel
theorem dX10_reading_8 : decode cX10_reading 8 = .ok (.iload_n 1, 1) := by decide +kernel
theorem dX10_reading_9 : decode cX10_reading 9 = .ok (.iastore, 1) := by decide +kernel
theorem dX10_reading_10 : decode cX10_reading 10 = .ok (.aload_n 0, 1) := by decide +kernel
theorem dX10_reading_11 : decode cX10_reading 11 = .ok (.getfield 48, 3) := by decide +kernel
theorem dX10_reading_14 : decode cX10_reading 14 = .ok (.aload_n 0, 1) := by decide +kernel
theorem dX10_reading_15 : decode cX10_reading 15 = .ok (.getfield 261, 3) := by decide +kernel
theorem dX10_reading_18 : decode cX10_reading 18 = .ok (.iload_n 2, 1) := by decide +kernel
theorem dX10_reading_19 : decode cX10_reading 19 = .ok (.iastore, 1) := by decide +kernel
theorem dX10_reading_20 : decode cX10_reading 20 = .ok (.aload_n 0, 1) := by decide +kernel
theorem dX10_reading_21 : decode cX10_reading 21 = .ok (.dup, 1) := by decide +kernel
theorem dX10_reading_22 : decode cX10_reading 22 = .ok (.getfield 261, 3) := by decide +kernel
theorem dX10_reading_25 : decode cX10_reading 25 = .ok (.iconst 1, 1) := by decide +kernel
theorem dX10_reading_26 : decode cX10_reading 26 = .ok (.iadd, 1) := by decide +kernel
theorem dX10_reading_27 : decode cX10_reading 27 = .ok (.putfield 261, 3) := by decide +kernel
theorem dX10_reading_30 : decode cX10_reading 30 = .ok (.return_, 1) := by decide +kernel
theorem dX10_hasRun_0 : decode cX10_hasRun 0 = .ok (.aload_n 0, 1) := by decide +kernel
theorem dX10_hasRun_1 : decode cX10_hasRun 1 = .ok (.getfield 7, 3) := by decide +kernel
theorem dX10_hasRun_4 : decode cX10_hasRun 4 = .ok (.bipush 6, 2) := by decide +kernel
theorem dX10_hasRun_6 : decode cX10_hasRun 6 = .ok (.iaload, 1) := by decide +kernel
theorem dX10_hasRun_7 : decode cX10_hasRun 7 = .ok (.ifCond .le 18, 3) := by decide +kernel
theorem dX10_hasRun_10 : decode cX10_hasRun 10 = .ok (.aload_n 0, 1) := by decide +kernel
theorem dX10_hasRun_11 : decode cX10_hasRun 11 = .ok (.getfield 7, 3) := by decide +kernel
theorem dX10_hasRun_14 : decode cX10_hasRun 14 = .ok (.bipush 8, 2) := by decide +kernel
theorem dX10_hasRun_16 : decode cX10_hasRun 16 = .ok (.iaload, 1) := by decide +kernel
theorem dX10_hasRun_17 : decode cX10_hasRun 17 = .ok (.iconst (-1), 1) := by decide +kernel
theorem dX10_hasRun_18 : decode cX10_hasRun 18 = .ok (.if_icmp .eq 7, 3) := by decide +kernel
theorem dX10_hasRun_21 : decode cX10_hasRun 21 = .ok (.iconst 1, 1) := by decide +kernel
theorem dX10_hasRun_22 : decode cX10_hasRun 22 = .ok (.goto 4, 3) := by decide +kernel
theorem dX10_hasRun_25 : decode cX10_hasRun 25 = .ok (.iconst 0, 1) := by decide +kernel
theorem dX10_hasRun_26 : decode cX10_hasRun 26 = .ok (.ireturn, 1) := by decide +kernel
theorem dX10_runs_0 : decode cX10_runs 0 = .ok (.iconst 0, 1) := by decide +kernel
theorem dX10_runs_1 : decode cX10_runs 1 = .ok (.istore_n 1, 1) := by decide +kernel
theorem dX10_runs_2 : decode cX10_runs 2 = .ok (.iload_n 1, 1) := by decide +kernel
theorem dX10_runs_3 : decode cX10_runs 3 = .ok (.bipush 20, 2) := by decide +kernel
theorem dX10_runs_5 : decode cX10_runs 5 = .ok (.if_icmp .ge 39, 3) := by decide +kernel
theorem dX10_runs_8 : decode cX10_runs 8 = .ok (.aload_n 0, 1) := by decide +kernel
theorem dX10_runs_9 : decode cX10_runs 9 = .ok (.getfield 66, 3) := by decide +kernel
theorem dX10_runs_12 : decode cX10_runs 12 = .ok (.iload_n 1, 1) := by decide +kernel
theorem dX10_runs_13 : decode cX10_runs 13 = .ok (.aload_n 0, 1) := by decide +kernel
theorem dX10_runs_14 : decode cX10_runs 14 = .ok (.getfield 7, 3) := by decide +kernel
theorem dX10_runs_17 : decode cX10_runs 17 = .ok (.bipush 29, 2) := by decide +kernel
theorem dX10_runs_19 : decode cX10_runs 19 = .ok (.iload_n 1, 1) := by decide +kernel
theorem dX10_runs_20 : decode cX10_runs 20 = .ok (.iadd, 1) := by decide +kernel
theorem dX10_runs_21 : decode cX10_runs 21 = .ok (.iaload, 1) := by decide +kernel
theorem dX10_runs_22 : decode cX10_runs 22 = .ok (.iastore, 1) := by decide +kernel
theorem dX10_runs_23 : decode cX10_runs 23 = .ok (.aload_n 0, 1) := by decide +kernel
theorem dX10_runs_24 : decode cX10_runs 24 = .ok (.getfield 69, 3) := by decide +kernel
theorem dX10_runs_27 : decode cX10_runs 27 = .ok (.iload_n 1, 1) := by decide +kernel
theorem dX10_runs_28 : decode cX10_runs 28 = .ok (.aload_n 0, 1) := by decide +kernel
theorem dX10_runs_29 : decode cX10_runs 29 = .ok (.getfield 7, 3) := by decide +kernel
theorem dX10_runs_32 : decode cX10_runs 32 = .ok (.bipush 69, 2) := by decide +kernel
theorem dX10_runs_34 : decode cX10_runs 34 = .ok (.iload_n 1, 1) := by decide +kernel
theorem dX10_runs_35 : decode cX10_runs 35 = .ok (.iadd, 1) := by decide +kernel
theorem dX10_runs_36 : decode cX10_runs 36 = .ok (.iaload, 1) := by decide +kernel
theorem dX10_runs_37 : decode cX10_runs 37 = .ok (.iastore, 1) := by decide +kernel
theorem dX10_runs_38 : decode cX10_runs 38 = .ok (.iinc 1 1, 3) := by decide +kernel
theorem dX10_runs_41 : decode cX10_runs 41 = .ok (.goto (-39), 3) := by decide +kernel
theorem dX10_runs_44 : decode cX10_runs 44 = .ok (.aload_n 0, 1) := by decide +kernel
theorem dX10_runs_45 : decode cX10_runs 45 = .ok (.iconst 0, 1) := by decide +kernel
theorem dX10_runs_46 : decode cX10_runs 46 = .ok (.putfield 261, 3) := by decide +kernel
theorem dX10_runs_49 : decode cX10_runs 49 = .ok (.aload_n 0, 1) := by decide +kernel
theorem dX10_runs_50 : decode cX10_runs 50 = .ok (.iconst 0, 1) := by decide +kernel
theorem dX10_runs_51 : decode cX10_runs 51 = .ok (.putfield 263, 3) := by decide +kernel
theorem dX10_runs_54 : decode cX10_runs 54 = .ok (.aload_n 0, 1) := by decide +kernel
theorem dX10_runs_55 : decode cX10_runs 55 = .ok (.iconst 0, 1) := by decide +kernel
theorem dX10_runs_56 : decode cX10_runs 56 = .ok (.putfield 266, 3) := by decide +kernel
theorem dX10_runs_59 : decode cX10_runs 59 = .ok (.aload_n 0, 1) := by decide +kernel
theorem dX10_runs_60 : decode cX10_runs 60 = .ok (.iconst 0, 1) := by decide +kernel
theorem dX10_runs_61 : decode cX10_runs 61 = .ok (.putfield 269, 3) := by decide +kernel
theorem dX10_runs_64 : decode cX10_runs 64 = .ok (.aload_n 0, 1) := by decide +kernel
theorem dX10_runs_65 : decode cX10_runs 65 = .ok (.getfield 7, 3) := by decide +kernel
theorem dX10_runs_68 : decode cX10_runs 68 = .ok (.bipush 8, 2) := by decide +kernel
theorem dX10_runs_70 : decode cX10_runs 70 = .ok (.iaload, 1) := by decide +kernel
theorem dX10_runs_71 : decode cX10_runs 71 = .ok (.istore_n 1, 1) := by decide +kernel
theorem dX10_runs_72 : decode cX10_runs 72 = .ok (.iconst 0, 1) := by decide +kernel
theorem dX10_runs_73 : decode cX10_runs 73 = .ok (.istore_n 2, 1) := by decide +kernel
theorem dX10_runs_74 : decode cX10_runs 74 = .ok (.aload_n 0, 1) := by decide +kernel
theorem dX10_runs_75 : decode cX10_runs 75 = .ok (.getfield 269, 3) := by decide +kernel
theorem dX10_runs_78 : decode cX10_runs 78 = .ok (.ifCond .ne 221, 3) := by decide +kernel
theorem dX10_runs_81 : decode cX10_runs 81 = .ok (.aload_n 0, 1) := by decide +kernel
theorem dX10_runs_82 : decode cX10_runs 82 = .ok (.iload_n 1, 1) := by decide +kernel
theorem dX10_runs_83 : decode cX10_runs 83 = .ok (.iload_n 2, 1) := by decide +kernel
theorem dX10_runs_84 : decode cX10_runs 84 = .ok (.invokevirtual 272, 3) := by decide +kernel
theorem dX10_runs_87 : decode cX10_runs 87 = .ok (.aload_n 0, 1) := by decide +kernel
theorem dX10_runs_88 : decode cX10_runs 88 = .ok (.getfield 7, 3) := by decide +kernel
theorem dX10_runs_91 : decode cX10_runs 91 = .ok (.bipush 49, 2) := by decide +kernel
theorem dX10_runs_93 : decode cX10_runs 93 = .ok (.iload_n 1, 1) := by decide +kernel
theorem dX10_runs_94 : decode cX10_runs 94 = .ok (.iadd, 1) := by decide +kernel
theorem dX10_runs_95 : decode cX10_runs 95 = .ok (.iaload, 1) := by decide +kernel
theorem dX10_runs_96 : decode cX10_runs 96 = .ok (.istore_n 3, 1) := by decide +kernel
theorem dX10_runs_97 : decode cX10_runs 97 = .ok (.aload_n 0, 1) := by decide +kernel
theorem dX10_runs_98 : decode cX10_runs 98 = .ok (.getfield 54, 3) := by decide +kernel
theorem dX10_runs_101 : decode cX10_runs 101 = .ok (.aload_n 0, 1) := by decide +kernel
theorem dX10_runs_102 : decode cX10_runs 102 = .ok (.getfield 263, 3) := by decide +kernel
theorem dX10_runs_105 : decode cX10_runs 105 = .ok (.iload_n 1, 1) := by decide +kernel
theorem dX10_runs_106 : decode cX10_runs 106 = .ok (.iastore, 1) := by decide +kernel
theorem dX10_runs_107 : decode cX10_runs 107 = .ok (.aload_n 0, 1) := by decide +kernel
theorem dX10_runs_108 : decode cX10_runs 108 = .ok (.getfield 57, 3) := by decide +kernel
theorem dX10_runs_111 : decode cX10_runs 111 = .ok (.aload_n 0, 1) := by decide +kernel
theorem dX10_runs_112 : decode cX10_runs 112 = .ok (.getfield 263, 3) := by decide +kernel
theorem dX10_runs_115 : decode cX10_runs 115 = .ok (.iload_n 3, 1) := by decide +kernel
theorem dX10_runs_116 : decode cX10_runs 116 = .ok (.iconst 5, 1) := by decide +kernel
theorem dX10_runs_117 : decode cX10_runs 117 = .ok (.if_icmp .lt 9, 3) := by decide +kernel
theorem dX10_runs_120 : decode cX10_runs 120 = .ok (.iload_n 3, 1) := by decide +kernel
theorem dX10_runs_121 : decode cX10_runs 121 = .ok (.bipush 6, 2) := by decide +kernel
theorem dX10_runs_123 : decode cX10_runs 123 = .ok (.if_icmp .ne 12, 3) := by decide +kernel
theorem dX10_runs_126 : decode cX10_runs 126 = .ok (.aload_n 0, 1) := by decide +kernel
theorem dX10_runs_127 : decode cX10_runs 127 = .ok (.getfield 69, 3) := by decide +kernel
theorem dX10_runs_130 : decode cX10_runs 130 = .ok (.iload_n 1, 1) := by decide +kernel
theorem dX10_runs_131 : decode cX10_runs 131 = .ok (.iaload, 1) := by decide +kernel
theorem dX10_runs_132 : decode cX10_runs 132 = .ok (.goto 4, 3) := by decide +kernel
theorem dX10_runs_135 : decode cX10_runs 135 = .ok (.iconst (-1), 1) := by decide +kernel
theorem dX10_runs_136 : decode cX10_runs 136 = .ok (.iastore, 1) := by decide +kernel
theorem dX10_runs_137 : decode cX10_runs 137 = .ok (.aload_n 0, 1) := by decide +kernel
theorem dX10_runs_138 : decode cX10_runs 138 = .ok (.getfield 60, 3) := by decide +kernel
theorem dX10_runs_141 : decode cX10_runs 141 = .ok (.aload_n 0, 1) := by decide +kernel
theorem dX10_runs_142 : decode cX10_runs 142 = .ok (.getfield 263, 3) := by decide +kernel
theorem dX10_runs_145 : decode cX10_runs 145 = .ok (.aload_n 0, 1) := by decide +kernel
theorem dX10_runs_146 : decode cX10_runs 146 = .ok (.getfield 261, 3) := by decide +kernel
theorem dX10_runs_149 : decode cX10_runs 149 = .ok (.iconst 1, 1) := by decide +kernel
theorem dX10_runs_150 : decode cX10_runs 150 = .ok (.isub, 1) := by decide +kernel
theorem dX10_runs_151 : decode cX10_runs 151 = .ok (.iastore, 1) := by decide +kernel
theorem dX10_runs_152 : decode cX10_runs 152 = .ok (.iconst 1, 1) := by decide +kernel
theorem dX10_runs_153 : decode cX10_runs 153 = .ok (.istore_n 2, 1) := by decide +kernel
theorem dX10_runs_154 : decode cX10_runs 154 = .ok (.aload_n 0, 1) := by decide +kernel
theorem dX10_runs_155 : decode cX10_runs 155 = .ok (.iconst 0, 1) := by decide +kernel
theorem dX10_runs_156 : decode cX10_runs 156 = .ok (.putfield 276, 3) := by decide +kernel
theorem dX10_runs_159 : decode cX10_runs 159 = .ok (.aload_n 0, 1) := by decide +kernel
theorem dX10_runs_160 : decode cX10_runs 160 = .ok (.getfield 57, 3) := by decide +kernel
theorem dX10_runs_163 : decode cX10_runs 163 = .ok (.aload_n 0, 1) := by decide +kernel
theorem dX10_runs_164 : decode cX10_runs 164 = .ok (.getfield 263, 3) := by decide +kernel
theorem dX10_runs_167 : decode cX10_runs 167 = .ok (.iaload, 1) := by decide +kernel
theorem dX10_runs_168 : decode cX10_runs 168 = .ok (.iconst (-1), 1) := by decide +kernel
theorem dX10_runs_169 : decode cX10_runs 169 = .ok (.if_icmp .eq 39, 3) := by decide +kernel
theorem dX10_runs_172 : decode cX10_runs 172 = .ok (.aload_n 0, 1) := by decide +kernel
theorem dX10_runs_173 : decode cX10_runs 173 = .ok (.aload_n 0, 1) := by decide +kernel
theorem dX10_runs_174 : decode cX10_runs 174 = .ok (.getfield 69, 3) := by decide +kernel
theorem dX10_runs_177 : decode cX10_runs 177 = .ok (.iload_n 1, 1) := by decide +kernel
theorem dX10_runs_178 : decode cX10_runs 178 = .ok (.iaload, 1) := by decide +kernel
theorem dX10_runs_179 : decode cX10_runs 179 = .ok (.iload_n 2, 1) := by decide +kernel
theorem dX10_runs_180 : decode cX10_runs 180 = .ok (.invokevirtual 272, 3) := by decide +kernel
theorem dX10_runs_183 : decode cX10_runs 183 = .ok (.iload_n 3, 1) := by decide +kernel
theorem dX10_runs_184 : decode cX10_runs 184 = .ok (.iconst 3, 1) := by decide +kernel
theorem dX10_runs_185 : decode cX10_runs 185 = .ok (.if_icmp .ne 7, 3) := by decide +kernel
theorem dX10_runs_188 : decode cX10_runs 188 = .ok (.iconst 3, 1) := by decide +kernel
theorem dX10_runs_189 : decode cX10_runs 189 = .ok (.goto 4, 3) := by decide +kernel
theorem dX10_runs_192 : decode cX10_runs 192 = .ok (.iconst 2, 1) := by decide +kernel
theorem dX10_runs_193 : decode cX10_runs 193 = .ok (.istore_n 2, 1) := by decide +kernel
theorem dX10_runs_194 : decode cX10_runs 194 = .ok (.aload_n 0, 1) := by decide +kernel
theorem dX10_runs_195 : decode cX10_runs 195 = .ok (.iload_n 3, 1) := by decide +kernel
theorem dX10_runs_196 : decode cX10_runs 196 = .ok (.iconst 3, 1) := by decide +kernel
theorem dX10_runs_197 : decode cX10_runs 197 = .ok (.if_icmp .ne 7, 3) := by decide +kernel
theorem dX10_runs_200 : decode cX10_runs 200 = .ok (.iconst 1, 1) := by decide +kernel
theorem dX10_runs_201 : decode cX10_runs 201 = .ok (.goto 4, 3) := by decide +kernel
theorem dX10_runs_204 : decode cX10_runs 204 = .ok (.iconst 0, 1) := by decide +kernel
theorem dX10_runs_205 : decode cX10_runs 205 = .ok (.putfield 276, 3) := by decide +kernel
theorem dX10_runs_208 : decode cX10_runs 208 = .ok (.aload_n 0, 1) := by decide +kernel
theorem dX10_runs_209 : decode cX10_runs 209 = .ok (.iload_n 1, 1) := by decide +kernel
theorem dX10_runs_210 : decode cX10_runs 210 = .ok (.iload_n 3, 1) := by decide +kernel
theorem dX10_runs_211 : decode cX10_runs 211 = .ok (.invokevirtual 279, 3) := by decide +kernel
theorem dX10_runs_214 : decode cX10_runs 214 = .ok (.aload_n 0, 1) := by decide +kernel
theorem dX10_runs_215 : decode cX10_runs 215 = .ok (.getfield 63, 3) := by decide +kernel
theorem dX10_runs_218 : decode cX10_runs 218 = .ok (.aload_n 0, 1) := by decide +kernel
theorem dX10_runs_219 : decode cX10_runs 219 = .ok (.getfield 263, 3) := by decide +kernel
theorem dX10_runs_222 : decode cX10_runs 222 = .ok (.aload_n 0, 1) := by decide +kernel
theorem dX10_runs_223 : decode cX10_runs 223 = .ok (.getfield 266, 3) := by decide +kernel
theorem dX10_runs_226 : decode cX10_runs 226 = .ok (.iastore, 1) := by decide +kernel
theorem dX10_runs_227 : decode cX10_runs 227 = .ok (.aload_n 0, 1) := by decide +kernel
theorem dX10_runs_228 : decode cX10_runs 228 = .ok (.dup, 1) := by decide +kernel
theorem dX10_runs_229 : decode cX10_runs 229 = .ok (.getfield 263, 3) := by decide +kernel
theorem dX10_runs_232 : decode cX10_runs 232 = .ok (.iconst 1, 1) := by decide +kernel
theorem dX10_runs_233 : decode cX10_runs 233 = .ok (.iadd, 1) := by decide +kernel
theorem dX10_runs_234 : decode cX10_runs 234 = .ok (.putfield 263, 3) := by decide +kernel
theorem dX10_runs_237 : decode cX10_runs 237 = .ok (.aload_n 0, 1) := by decide +kernel
theorem dX10_runs_238 : decode cX10_runs 238 = .ok (.iload_n 3, 1) := by decide +kernel
theorem dX10_runs_239 : decode cX10_runs 239 = .ok (.bipush 7, 2) := by decide +kernel
theorem dX10_runs_241 : decode cX10_runs 241 = .ok (.if_icmp .ne 7, 3) := by decide +kernel
theorem dX10_runs_244 : decode cX10_runs 244 = .ok (.iconst 1, 1) := by decide +kernel
theorem dX10_runs_245 : decode cX10_runs 245 = .ok (.goto 17, 3) := by decide +kernel
theorem dX10_runs_248 : decode cX10_runs 248 = .ok (.aload_n 0, 1) := by decide +kernel
theorem dX10_runs_249 : decode cX10_runs 249 = .ok (.getfield 263, 3) := by decide +kernel
theorem dX10_runs_252 : decode cX10_runs 252 = .ok (.bipush 100, 2) := by decide +kernel
theorem dX10_runs_254 : decode cX10_runs 254 = .ok (.if_icmp .ne 7, 3) := by decide +kernel
theorem dX10_runs_257 : decode cX10_runs 257 = .ok (.iconst 2, 1) := by decide +kernel
theorem dX10_runs_258 : decode cX10_runs 258 = .ok (.goto 4, 3) := by decide +kernel
theorem dX10_runs_261 : decode cX10_runs 261 = .ok (.iconst 0, 1) := by decide +kernel
theorem dX10_runs_262 : decode cX10_runs 262 = .ok (.putfield 269, 3) := by decide +kernel
theorem dX10_runs_265 : decode cX10_runs 265 = .ok (.iload_n 3, 1) := by decide +kernel
theorem dX10_runs_266 : decode cX10_runs 266 = .ok (.iconst 5, 1) := by decide +kernel
theorem dX10_runs_267 : decode cX10_runs 267 = .ok (.if_icmp .ne 19, 3) := by decide +kernel
theorem dX10_runs_270 : decode cX10_runs 270 = .ok (.aload_n 0, 1) := by decide +kernel
theorem dX10_runs_271 : decode cX10_runs 271 = .ok (.getfield 266, 3) := by decide +kernel
theorem dX10_runs_274 : decode cX10_runs 274 = .ok (.ifCond .ge 12, 3) := by decide +kernel
theorem dX10_runs_277 : decode cX10_runs 277 = .ok (.aload_n 0, 1) := by decide +kernel
theorem dX10_runs_278 : decode cX10_runs 278 = .ok (.getfield 69, 3) := by decide +kernel
theorem dX10_runs_281 : decode cX10_runs 281 = .ok (.iload_n 1, 1) := by decide +kernel
theorem dX10_runs_282 : decode cX10_runs 282 = .ok (.iaload, 1) := by decide +kernel
theorem dX10_runs_283 : decode cX10_runs 283 = .ok (.goto 12, 3) := by decide +kernel
theorem dX10_runs_286 : decode cX10_runs 286 = .ok (.aload_n 0, 1) := by decide +kernel
theorem dX10_runs_287 : decode cX10_runs 287 = .ok (.getfield 7, 3) := by decide +kernel
theorem dX10_runs_290 : decode cX10_runs 290 = .ok (.bipush 109, 2) := by decide +kernel
theorem dX10_runs_292 : decode cX10_runs 292 = .ok (.iload_n 1, 1) := by decide +kernel
theorem dX10_runs_293 : decode cX10_runs 293 = .ok (.iadd, 1) := by decide +kernel
theorem dX10_runs_294 : decode cX10_runs 294 = .ok (.iaload, 1) := by decide +kernel
theorem dX10_runs_295 : decode cX10_runs 295 = .ok (.istore_n 1, 1) := by decide +kernel
theorem dX10_runs_296 : decode cX10_runs 296 = .ok (.goto (-222), 3) := by decide +kernel
theorem dX10_runs_299 : decode cX10_runs 299 = .ok (.return_, 1) := by decide +kernel
theorem dX10_goes_0 : decode cX10_goes 0 = .ok (.aload_n 0, 1) := by decide +kernel
theorem dX10_goes_1 : decode cX10_goes 1 = .ok (.getfield 69, 3) := by decide +kernel
theorem dX10_goes_4 : decode cX10_goes 4 = .ok (.iload_n 1, 1) := by decide +kernel
theorem dX10_goes_5 : decode cX10_goes 5 = .ok (.iaload, 1) := by decide +kernel
theorem dX10_goes_6 : decode cX10_goes 6 = .ok (.istore_n 3, 1) := by decide +kernel
theorem dX10_goes_7 : decode cX10_goes 7 = .ok (.iload_n 2, 1) := by decide +kernel
theorem dX10_goes_8 : decode cX10_goes 8 = .ok (.tableswitch 161 0 6 #[44, 57, 78, 99, 120, 161, 133], 44) := by decide +kernel
theorem dX10_goes_52 : decode cX10_goes 52 = .ok (.aload_n 0, 1) := by decide +kernel
theorem dX10_goes_53 : decode cX10_goes 53 = .ok (.aload_n 0, 1) := by decide +kernel
theorem dX10_goes_54 : decode cX10_goes 54 = .ok (.getfield 66, 3) := by decide +kernel
theorem dX10_goes_57 : decode cX10_goes 57 = .ok (.iload_n 3, 1) := by decide +kernel
theorem dX10_goes_58 : decode cX10_goes 58 = .ok (.iaload, 1) := by decide +kernel
theorem dX10_goes_59 : decode cX10_goes 59 = .ok (.putfield 266, 3) := by decide +kernel
theorem dX10_goes_62 : decode cX10_goes 62 = .ok (.goto 107, 3) := by decide +kernel
theorem dX10_goes_65 : decode cX10_goes 65 = .ok (.aload_n 0, 1) := by decide +kernel
theorem dX10_goes_66 : decode cX10_goes 66 = .ok (.aload_n 0, 1) := by decide +kernel
theorem dX10_goes_67 : decode cX10_goes 67 = .ok (.getfield 266, 3) := by decide +kernel
theorem dX10_goes_70 : decode cX10_goes 70 = .ok (.aload_n 0, 1) := by decide +kernel
theorem dX10_goes_71 : decode cX10_goes 71 = .ok (.getfield 66, 3) := by decide +kernel
theorem dX10_goes_74 : decode cX10_goes 74 = .ok (.iload_n 3, 1) := by decide +kernel
theorem dX10_goes_75 : decode cX10_goes 75 = .ok (.iaload, 1) := by decide +kernel
theorem dX10_goes_76 : decode cX10_goes 76 = .ok (.iadd, 1) := by decide +kernel
theorem dX10_goes_77 : decode cX10_goes 77 = .ok (.invokestatic 282, 3) := by decide +kernel
theorem dX10_goes_80 : decode cX10_goes 80 = .ok (.putfield 266, 3) := by decide +kernel
theorem dX10_goes_83 : decode cX10_goes 83 = .ok (.goto 86, 3) := by decide +kernel
theorem dX10_goes_86 : decode cX10_goes 86 = .ok (.aload_n 0, 1) := by decide +kernel
theorem dX10_goes_87 : decode cX10_goes 87 = .ok (.aload_n 0, 1) := by decide +kernel
theorem dX10_goes_88 : decode cX10_goes 88 = .ok (.getfield 266, 3) := by decide +kernel
theorem dX10_goes_91 : decode cX10_goes 91 = .ok (.aload_n 0, 1) := by decide +kernel
theorem dX10_goes_92 : decode cX10_goes 92 = .ok (.getfield 66, 3) := by decide +kernel
theorem dX10_goes_95 : decode cX10_goes 95 = .ok (.iload_n 3, 1) := by decide +kernel
theorem dX10_goes_96 : decode cX10_goes 96 = .ok (.iaload, 1) := by decide +kernel
theorem dX10_goes_97 : decode cX10_goes 97 = .ok (.isub, 1) := by decide +kernel
theorem dX10_goes_98 : decode cX10_goes 98 = .ok (.invokestatic 282, 3) := by decide +kernel
theorem dX10_goes_101 : decode cX10_goes 101 = .ok (.putfield 266, 3) := by decide +kernel
theorem dX10_goes_104 : decode cX10_goes 104 = .ok (.goto 65, 3) := by decide +kernel
theorem dX10_goes_107 : decode cX10_goes 107 = .ok (.aload_n 0, 1) := by decide +kernel
theorem dX10_goes_108 : decode cX10_goes 108 = .ok (.aload_n 0, 1) := by decide +kernel
theorem dX10_goes_109 : decode cX10_goes 109 = .ok (.getfield 266, 3) := by decide +kernel
theorem dX10_goes_112 : decode cX10_goes 112 = .ok (.aload_n 0, 1) := by decide +kernel
theorem dX10_goes_113 : decode cX10_goes 113 = .ok (.getfield 66, 3) := by decide +kernel
theorem dX10_goes_116 : decode cX10_goes 116 = .ok (.iload_n 3, 1) := by decide +kernel
theorem dX10_goes_117 : decode cX10_goes 117 = .ok (.iaload, 1) := by decide +kernel
theorem dX10_goes_118 : decode cX10_goes 118 = .ok (.imul, 1) := by decide +kernel
theorem dX10_goes_119 : decode cX10_goes 119 = .ok (.invokestatic 282, 3) := by decide +kernel
theorem dX10_goes_122 : decode cX10_goes 122 = .ok (.putfield 266, 3) := by decide +kernel
theorem dX10_goes_125 : decode cX10_goes 125 = .ok (.goto 44, 3) := by decide +kernel
theorem dX10_goes_128 : decode cX10_goes 128 = .ok (.aload_n 0, 1) := by decide +kernel
theorem dX10_goes_129 : decode cX10_goes 129 = .ok (.getfield 66, 3) := by decide +kernel
theorem dX10_goes_132 : decode cX10_goes 132 = .ok (.iload_n 3, 1) := by decide +kernel
theorem dX10_goes_133 : decode cX10_goes 133 = .ok (.aload_n 0, 1) := by decide +kernel
theorem dX10_goes_134 : decode cX10_goes 134 = .ok (.getfield 266, 3) := by decide +kernel
theorem dX10_goes_137 : decode cX10_goes 137 = .ok (.iastore, 1) := by decide +kernel
theorem dX10_goes_138 : decode cX10_goes 138 = .ok (.goto 31, 3) := by decide +kernel
theorem dX10_goes_141 : decode cX10_goes 141 = .ok (.aload_n 0, 1) := by decide +kernel
theorem dX10_goes_142 : decode cX10_goes 142 = .ok (.getfield 69, 3) := by decide +kernel
theorem dX10_goes_145 : decode cX10_goes 145 = .ok (.iload_n 3, 1) := by decide +kernel
theorem dX10_goes_146 : decode cX10_goes 146 = .ok (.aload_n 0, 1) := by decide +kernel
theorem dX10_goes_147 : decode cX10_goes 147 = .ok (.aload_n 0, 1) := by decide +kernel
theorem dX10_goes_148 : decode cX10_goes 148 = .ok (.getfield 69, 3) := by decide +kernel
theorem dX10_goes_151 : decode cX10_goes 151 = .ok (.iload_n 3, 1) := by decide +kernel
theorem dX10_goes_152 : decode cX10_goes 152 = .ok (.iaload, 1) := by decide +kernel
theorem dX10_goes_153 : decode cX10_goes 153 = .ok (.aload_n 0, 1) := by decide +kernel
theorem dX10_goes_154 : decode cX10_goes 154 = .ok (.getfield 7, 3) := by decide +kernel
theorem dX10_goes_157 : decode cX10_goes 157 = .ok (.bipush 89, 2) := by decide +kernel
theorem dX10_goes_159 : decode cX10_goes 159 = .ok (.iload_n 1, 1) := by decide +kernel
theorem dX10_goes_160 : decode cX10_goes 160 = .ok (.iadd, 1) := by decide +kernel
theorem dX10_goes_161 : decode cX10_goes 161 = .ok (.iaload, 1) := by decide +kernel
theorem dX10_goes_162 : decode cX10_goes 162 = .ok (.invokevirtual 285, 3) := by decide +kernel
theorem dX10_goes_165 : decode cX10_goes 165 = .ok (.iastore, 1) := by decide +kernel
theorem dX10_goes_166 : decode cX10_goes 166 = .ok (.goto 3, 3) := by decide +kernel
theorem dX10_goes_169 : decode cX10_goes 169 = .ok (.return_, 1) := by decide +kernel
theorem dX10_wordBehind_0 : decode cX10_wordBehind 0 = .ok (.iload_n 1, 1) := by decide +kernel
theorem dX10_wordBehind_1 : decode cX10_wordBehind 1 = .ok (.istore_n 3, 1) := by decide +kernel
theorem dX10_wordBehind_2 : decode cX10_wordBehind 2 = .ok (.iload_n 2, 1) := by decide +kernel
theorem dX10_wordBehind_3 : decode cX10_wordBehind 3 = .ok (.istore 4, 2) := by decide +kernel
theorem dX10_wordBehind_5 : decode cX10_wordBehind 5 = .ok (.iload 4, 2) := by decide +kernel
theorem dX10_wordBehind_7 : decode cX10_wordBehind 7 = .ok (.ifCond .le 47, 3) := by decide +kernel
theorem dX10_wordBehind_10 : decode cX10_wordBehind 10 = .ok (.iload_n 3, 1) := by decide +kernel
theorem dX10_wordBehind_11 : decode cX10_wordBehind 11 = .ok (.iconst 1, 1) := by decide +kernel
theorem dX10_wordBehind_12 : decode cX10_wordBehind 12 = .ok (.iadd, 1) := by decide +kernel
theorem dX10_wordBehind_13 : decode cX10_wordBehind 13 = .ok (.aload_n 0, 1) := by decide +kernel
theorem dX10_wordBehind_14 : decode cX10_wordBehind 14 = .ok (.getfield 7, 3) := by decide +kernel
theorem dX10_wordBehind_17 : decode cX10_wordBehind 17 = .ok (.iconst 5, 1) := by decide +kernel
theorem dX10_wordBehind_18 : decode cX10_wordBehind 18 = .ok (.iaload, 1) := by decide +kernel
theorem dX10_wordBehind_19 : decode cX10_wordBehind 19 = .ok (.irem, 1) := by decide +kernel
theorem dX10_wordBehind_20 : decode cX10_wordBehind 20 = .ok (.istore_n 3, 1) := by decide +kernel
theorem dX10_wordBehind_21 : decode cX10_wordBehind 21 = .ok (.aload_n 0, 1) := by decide +kernel
theorem dX10_wordBehind_22 : decode cX10_wordBehind 22 = .ok (.getfield 7, 3) := by decide +kernel
theorem dX10_wordBehind_25 : decode cX10_wordBehind 25 = .ok (.bipush 9, 2) := by decide +kernel
theorem dX10_wordBehind_27 : decode cX10_wordBehind 27 = .ok (.iload_n 3, 1) := by decide +kernel
theorem dX10_wordBehind_28 : decode cX10_wordBehind 28 = .ok (.iadd, 1) := by decide +kernel
theorem dX10_wordBehind_29 : decode cX10_wordBehind 29 = .ok (.iaload, 1) := by decide +kernel
theorem dX10_wordBehind_30 : decode cX10_wordBehind 30 = .ok (.iconst 1, 1) := by decide +kernel
theorem dX10_wordBehind_31 : decode cX10_wordBehind 31 = .ok (.if_icmp .ne 17, 3) := by decide +kernel
theorem dX10_wordBehind_34 : decode cX10_wordBehind 34 = .ok (.iload_n 3, 1) := by decide +kernel
theorem dX10_wordBehind_35 : decode cX10_wordBehind 35 = .ok (.iconst 1, 1) := by decide +kernel
theorem dX10_wordBehind_36 : decode cX10_wordBehind 36 = .ok (.iadd, 1) := by decide +kernel
theorem dX10_wordBehind_37 : decode cX10_wordBehind 37 = .ok (.aload_n 0, 1) := by decide +kernel
theorem dX10_wordBehind_38 : decode cX10_wordBehind 38 = .ok (.getfield 7, 3) := by decide +kernel
theorem dX10_wordBehind_41 : decode cX10_wordBehind 41 = .ok (.iconst 5, 1) := by decide +kernel
theorem dX10_wordBehind_42 : decode cX10_wordBehind 42 = .ok (.iaload, 1) := by decide +kernel
theorem dX10_wordBehind_43 : decode cX10_wordBehind 43 = .ok (.irem, 1) := by decide +kernel
theorem dX10_wordBehind_44 : decode cX10_wordBehind 44 = .ok (.istore_n 3, 1) := by decide +kernel
theorem dX10_wordBehind_45 : decode cX10_wordBehind 45 = .ok (.goto (-24), 3) := by decide +kernel
theorem dX10_wordBehind_48 : decode cX10_wordBehind 48 = .ok (.iinc 4 (-1), 3) := by decide +kernel
theorem dX10_wordBehind_51 : decode cX10_wordBehind 51 = .ok (.goto (-46), 3) := by decide +kernel
theorem dX10_wordBehind_54 : decode cX10_wordBehind 54 = .ok (.iload_n 3, 1) := by decide +kernel
theorem dX10_wordBehind_55 : decode cX10_wordBehind 55 = .ok (.ireturn, 1) := by decide +kernel
theorem dX10_takes_0 : decode cX10_takes 0 = .ok (.iconst 0, 1) := by decide +kernel
theorem dX10_takes_1 : decode cX10_takes 1 = .ok (.istore_n 1, 1) := by decide +kernel
theorem dX10_takes_2 : decode cX10_takes 2 = .ok (.iload_n 1, 1) := by decide +kernel
theorem dX10_takes_3 : decode cX10_takes 3 = .ok (.bipush 20, 2) := by decide +kernel
theorem dX10_takes_5 : decode cX10_takes 5 = .ok (.if_icmp .ge 25, 3) := by decide +kernel
theorem dX10_takes_8 : decode cX10_takes 8 = .ok (.aload_n 0, 1) := by decide +kernel
theorem dX10_takes_9 : decode cX10_takes 9 = .ok (.getfield 72, 3) := by decide +kernel
theorem dX10_takes_12 : decode cX10_takes 12 = .ok (.iload_n 1, 1) := by decide +kernel
theorem dX10_takes_13 : decode cX10_takes 13 = .ok (.aload_n 0, 1) := by decide +kernel
theorem dX10_takes_14 : decode cX10_takes 14 = .ok (.getfield 7, 3) := by decide +kernel
theorem dX10_takes_17 : decode cX10_takes 17 = .ok (.sipush 149, 3) := by decide +kernel
theorem dX10_takes_20 : decode cX10_takes 20 = .ok (.iload_n 1, 1) := by decide +kernel
theorem dX10_takes_21 : decode cX10_takes 21 = .ok (.iadd, 1) := by decide +kernel
theorem dX10_takes_22 : decode cX10_takes 22 = .ok (.iaload, 1) := by decide +kernel
theorem dX10_takes_23 : decode cX10_takes 23 = .ok (.iastore, 1) := by decide +kernel
theorem dX10_takes_24 : decode cX10_takes 24 = .ok (.iinc 1 1, 3) := by decide +kernel
theorem dX10_takes_27 : decode cX10_takes 27 = .ok (.goto (-25), 3) := by decide +kernel
theorem dX10_takes_30 : decode cX10_takes 30 = .ok (.aload_n 0, 1) := by decide +kernel
theorem dX10_takes_31 : decode cX10_takes 31 = .ok (.aload_n 0, 1) := by decide +kernel
theorem dX10_takes_32 : decode cX10_takes 32 = .ok (.getfield 7, 3) := by decide +kernel
theorem dX10_takes_35 : decode cX10_takes 35 = .ok (.iconst 2, 1) := by decide +kernel
theorem dX10_takes_36 : decode cX10_takes 36 = .ok (.iaload, 1) := by decide +kernel
theorem dX10_takes_37 : decode cX10_takes 37 = .ok (.putfield 288, 3) := by decide +kernel
theorem dX10_takes_40 : decode cX10_takes 40 = .ok (.aload_n 0, 1) := by decide +kernel
theorem dX10_takes_41 : decode cX10_takes 41 = .ok (.aload_n 0, 1) := by decide +kernel
theorem dX10_takes_42 : decode cX10_takes 42 = .ok (.getfield 7, 3) := by decide +kernel
theorem dX10_takes_45 : decode cX10_takes 45 = .ok (.iconst 3, 1) := by decide +kernel
theorem dX10_takes_46 : decode cX10_takes 46 = .ok (.iaload, 1) := by decide +kernel
theorem dX10_takes_47 : decode cX10_takes 47 = .ok (.putfield 290, 3) := by decide +kernel
theorem dX10_takes_50 : decode cX10_takes 50 = .ok (.return_, 1) := by decide +kernel
theorem dX10_whenAt_0 : decode cX10_whenAt 0 = .ok (.iload_n 1, 1) := by decide +kernel
theorem dX10_whenAt_1 : decode cX10_whenAt 1 = .ok (.aload_n 0, 1) := by decide +kernel
theorem dX10_whenAt_2 : decode cX10_whenAt 2 = .ok (.getfield 7, 3) := by decide +kernel
theorem dX10_whenAt_5 : decode cX10_whenAt 5 = .ok (.iconst 1, 1) := by decide +kernel
theorem dX10_whenAt_6 : decode cX10_whenAt 6 = .ok (.iaload, 1) := by decide +kernel
theorem dX10_whenAt_7 : decode cX10_whenAt 7 = .ok (.idiv, 1) := by decide +kernel
theorem dX10_whenAt_8 : decode cX10_whenAt 8 = .ok (.aload_n 0, 1) := by decide +kernel
theorem dX10_whenAt_9 : decode cX10_whenAt 9 = .ok (.getfield 7, 3) := by decide +kernel
theorem dX10_whenAt_12 : decode cX10_whenAt 12 = .ok (.iconst 0, 1) := by decide +kernel
theorem dX10_whenAt_13 : decode cX10_whenAt 13 = .ok (.iaload, 1) := by decide +kernel
theorem dX10_whenAt_14 : decode cX10_whenAt 14 = .ok (.iconst 1, 1) := by decide +kernel
theorem dX10_whenAt_15 : decode cX10_whenAt 15 = .ok (.isub, 1) := by decide +kernel
theorem dX10_whenAt_16 : decode cX10_whenAt 16 = .ok (.if_icmp .ne 17, 3) := by decide +kernel
theorem dX10_whenAt_19 : decode cX10_whenAt 19 = .ok (.aload_n 0, 1) := by decide +kernel
theorem dX10_whenAt_20 : decode cX10_whenAt 20 = .ok (.getfield 290, 3) := by decide +kernel
theorem dX10_whenAt_23 : decode cX10_whenAt 23 = .ok (.ifCond .le 10, 3) := by decide +kernel
theorem dX10_whenAt_26 : decode cX10_whenAt 26 = .ok (.aload_n 0, 1) := by decide +kernel
theorem dX10_whenAt_27 : decode cX10_whenAt 27 = .ok (.getfield 290, 3) := by decide +kernel
theorem dX10_whenAt_30 : decode cX10_whenAt 30 = .ok (.goto 9, 3) := by decide +kernel
theorem dX10_whenAt_33 : decode cX10_whenAt 33 = .ok (.aload_n 0, 1) := by decide +kernel
theorem dX10_whenAt_34 : decode cX10_whenAt 34 = .ok (.getfield 7, 3) := by decide +kernel
theorem dX10_whenAt_37 : decode cX10_whenAt 37 = .ok (.iconst 1, 1) := by decide +kernel
theorem dX10_whenAt_38 : decode cX10_whenAt 38 = .ok (.iaload, 1) := by decide +kernel
theorem dX10_whenAt_39 : decode cX10_whenAt 39 = .ok (.istore_n 3, 1) := by decide +kernel
theorem dX10_whenAt_40 : decode cX10_whenAt 40 = .ok (.iload_n 1, 1) := by decide +kernel
theorem dX10_whenAt_41 : decode cX10_whenAt 41 = .ok (.aload_n 0, 1) := by decide +kernel
theorem dX10_whenAt_42 : decode cX10_whenAt 42 = .ok (.getfield 7, 3) := by decide +kernel
theorem dX10_whenAt_45 : decode cX10_whenAt 45 = .ok (.iconst 1, 1) := by decide +kernel
theorem dX10_whenAt_46 : decode cX10_whenAt 46 = .ok (.iaload, 1) := by decide +kernel
theorem dX10_whenAt_47 : decode cX10_whenAt 47 = .ok (.irem, 1) := by decide +kernel
theorem dX10_whenAt_48 : decode cX10_whenAt 48 = .ok (.iload_n 3, 1) := by decide +kernel
theorem dX10_whenAt_49 : decode cX10_whenAt 49 = .ok (.irem, 1) := by decide +kernel
theorem dX10_whenAt_50 : decode cX10_whenAt 50 = .ok (.istore 4, 2) := by decide +kernel
theorem dX10_whenAt_52 : decode cX10_whenAt 52 = .ok (.iload_n 2, 1) := by decide +kernel
theorem dX10_whenAt_53 : decode cX10_whenAt 53 = .ok (.iload 4, 2) := by decide +kernel
theorem dX10_whenAt_55 : decode cX10_whenAt 55 = .ok (.iload_n 2, 1) := by decide +kernel
theorem dX10_whenAt_56 : decode cX10_whenAt 56 = .ok (.isub, 1) := by decide +kernel
theorem dX10_whenAt_57 : decode cX10_whenAt 57 = .ok (.iload_n 3, 1) := by decide +kernel
theorem dX10_whenAt_58 : decode cX10_whenAt 58 = .ok (.invokestatic 258, 3) := by decide +kernel
theorem dX10_whenAt_61 : decode cX10_whenAt 61 = .ok (.iadd, 1) := by decide +kernel
theorem dX10_whenAt_62 : decode cX10_whenAt 62 = .ok (.ireturn, 1) := by decide +kernel
theorem dX10_waited_0 : decode cX10_waited 0 = .ok (.iload_n 1, 1) := by decide +kernel
theorem dX10_waited_1 : decode cX10_waited 1 = .ok (.ifCond .ne 7, 3) := by decide +kernel
theorem dX10_waited_4 : decode cX10_waited 4 = .ok (.iconst 0, 1) := by decide +kernel
theorem dX10_waited_5 : decode cX10_waited 5 = .ok (.goto 34, 3) := by decide +kernel
theorem dX10_waited_8 : decode cX10_waited 8 = .ok (.iload_n 1, 1) := by decide +kernel
theorem dX10_waited_9 : decode cX10_waited 9 = .ok (.iconst 1, 1) := by decide +kernel
theorem dX10_waited_10 : decode cX10_waited 10 = .ok (.if_icmp .ne 12, 3) := by decide +kernel
theorem dX10_waited_13 : decode cX10_waited 13 = .ok (.iconst 1, 1) := by decide +kernel
theorem dX10_waited_14 : decode cX10_waited 14 = .ok (.aload_n 0, 1) := by decide +kernel
theorem dX10_waited_15 : decode cX10_waited 15 = .ok (.getfield 288, 3) := by decide +kernel
theorem dX10_waited_18 : decode cX10_waited 18 = .ok (.iadd, 1) := by decide +kernel
theorem dX10_waited_19 : decode cX10_waited 19 = .ok (.goto 20, 3) := by decide +kernel
theorem dX10_waited_22 : decode cX10_waited 22 = .ok (.iload_n 1, 1) := by decide +kernel
theorem dX10_waited_23 : decode cX10_waited 23 = .ok (.iconst 2, 1) := by decide +kernel
theorem dX10_waited_24 : decode cX10_waited 24 = .ok (.if_icmp .ne 7, 3) := by decide +kernel
theorem dX10_waited_27 : decode cX10_waited 27 = .ok (.iconst 1, 1) := by decide +kernel
theorem dX10_waited_28 : decode cX10_waited 28 = .ok (.goto 11, 3) := by decide +kernel
theorem dX10_waited_31 : decode cX10_waited 31 = .ok (.iconst 1, 1) := by decide +kernel
theorem dX10_waited_32 : decode cX10_waited 32 = .ok (.aload_n 0, 1) := by decide +kernel
theorem dX10_waited_33 : decode cX10_waited 33 = .ok (.getfield 7, 3) := by decide +kernel
theorem dX10_waited_36 : decode cX10_waited 36 = .ok (.iconst 4, 1) := by decide +kernel
theorem dX10_waited_37 : decode cX10_waited 37 = .ok (.iaload, 1) := by decide +kernel
theorem dX10_waited_38 : decode cX10_waited 38 = .ok (.iadd, 1) := by decide +kernel
theorem dX10_waited_39 : decode cX10_waited 39 = .ok (.ireturn, 1) := by decide +kernel
theorem dX10_timed_0 : decode cX10_timed 0 = .ok (.iconst 0, 1) := by decide +kernel
theorem dX10_timed_1 : decode cX10_timed 1 = .ok (.istore_n 1, 1) := by decide +kernel
theorem dX10_timed_2 : decode cX10_timed 2 = .ok (.iconst 0, 1) := by decide +kernel
theorem dX10_timed_3 : decode cX10_timed 3 = .ok (.istore_n 2, 1) := by decide +kernel
theorem dX10_timed_4 : decode cX10_timed 4 = .ok (.iload_n 2, 1) := by decide +kernel
theorem dX10_timed_5 : decode cX10_timed 5 = .ok (.aload_n 0, 1) := by decide +kernel
theorem dX10_timed_6 : decode cX10_timed 6 = .ok (.getfield 261, 3) := by decide +kernel
theorem dX10_timed_9 : decode cX10_timed 9 = .ok (.if_icmp .ge 44, 3) := by decide +kernel
theorem dX10_timed_12 : decode cX10_timed 12 = .ok (.aload_n 0, 1) := by decide +kernel
theorem dX10_timed_13 : decode cX10_timed 13 = .ok (.aload_n 0, 1) := by decide +kernel
theorem dX10_timed_14 : decode cX10_timed 14 = .ok (.getfield 72, 3) := by decide +kernel
theorem dX10_timed_17 : decode cX10_timed 17 = .ok (.aload_n 0, 1) := by decide +kernel
theorem dX10_timed_18 : decode cX10_timed 18 = .ok (.getfield 45, 3) := by decide +kernel
theorem dX10_timed_21 : decode cX10_timed 21 = .ok (.iload_n 2, 1) := by decide +kernel
theorem dX10_timed_22 : decode cX10_timed 22 = .ok (.iaload, 1) := by decide +kernel
theorem dX10_timed_23 : decode cX10_timed 23 = .ok (.iaload, 1) := by decide +kernel
theorem dX10_timed_24 : decode cX10_timed 24 = .ok (.iload_n 1, 1) := by decide +kernel
theorem dX10_timed_25 : decode cX10_timed 25 = .ok (.aload_n 0, 1) := by decide +kernel
theorem dX10_timed_26 : decode cX10_timed 26 = .ok (.aload_n 0, 1) := by decide +kernel
theorem dX10_timed_27 : decode cX10_timed 27 = .ok (.getfield 48, 3) := by decide +kernel
theorem dX10_timed_30 : decode cX10_timed 30 = .ok (.iload_n 2, 1) := by decide +kernel
theorem dX10_timed_31 : decode cX10_timed 31 = .ok (.iaload, 1) := by decide +kernel
theorem dX10_timed_32 : decode cX10_timed 32 = .ok (.invokevirtual 292, 3) := by decide +kernel
theorem dX10_timed_35 : decode cX10_timed 35 = .ok (.iadd, 1) := by decide +kernel
theorem dX10_timed_36 : decode cX10_timed 36 = .ok (.invokevirtual 295, 3) := by decide +kernel
theorem dX10_timed_39 : decode cX10_timed 39 = .ok (.istore_n 1, 1) := by decide +kernel
theorem dX10_timed_40 : decode cX10_timed 40 = .ok (.aload_n 0, 1) := by decide +kernel
theorem dX10_timed_41 : decode cX10_timed 41 = .ok (.getfield 51, 3) := by decide +kernel
theorem dX10_timed_44 : decode cX10_timed 44 = .ok (.iload_n 2, 1) := by decide +kernel
theorem dX10_timed_45 : decode cX10_timed 45 = .ok (.iload_n 1, 1) := by decide +kernel
theorem dX10_timed_46 : decode cX10_timed 46 = .ok (.iastore, 1) := by decide +kernel
theorem dX10_timed_47 : decode cX10_timed 47 = .ok (.iinc 2 1, 3) := by decide +kernel
theorem dX10_timed_50 : decode cX10_timed 50 = .ok (.goto (-46), 3) := by decide +kernel
theorem dX10_timed_53 : decode cX10_timed 53 = .ok (.iload_n 1, 1) := by decide +kernel
theorem dX10_timed_54 : decode cX10_timed 54 = .ok (.iconst 1, 1) := by decide +kernel
theorem dX10_timed_55 : decode cX10_timed 55 = .ok (.iadd, 1) := by decide +kernel
theorem dX10_timed_56 : decode cX10_timed 56 = .ok (.aload_n 0, 1) := by decide +kernel
theorem dX10_timed_57 : decode cX10_timed 57 = .ok (.getfield 276, 3) := by decide +kernel
theorem dX10_timed_60 : decode cX10_timed 60 = .ok (.ifCond .eq 12, 3) := by decide +kernel
theorem dX10_timed_63 : decode cX10_timed 63 = .ok (.aload_n 0, 1) := by decide +kernel
theorem dX10_timed_64 : decode cX10_timed 64 = .ok (.getfield 7, 3) := by decide +kernel
theorem dX10_timed_67 : decode cX10_timed 67 = .ok (.iconst 4, 1) := by decide +kernel
theorem dX10_timed_68 : decode cX10_timed 68 = .ok (.iaload, 1) := by decide +kernel
theorem dX10_timed_69 : decode cX10_timed 69 = .ok (.goto 4, 3) := by decide +kernel
theorem dX10_timed_72 : decode cX10_timed 72 = .ok (.iconst 0, 1) := by decide +kernel
theorem dX10_timed_73 : decode cX10_timed 73 = .ok (.iadd, 1) := by decide +kernel
theorem dX10_timed_74 : decode cX10_timed 74 = .ok (.ireturn, 1) := by decide +kernel
theorem dX10_timeNow_0 : decode cX10_timeNow 0 = .ok (.aload_n 0, 1) := by decide +kernel
theorem dX10_timeNow_1 : decode cX10_timeNow 1 = .ok (.invokevirtual 298, 3) := by decide +kernel
theorem dX10_timeNow_4 : decode cX10_timeNow 4 = .ok (.aload_n 0, 1) := by decide +kernel
theorem dX10_timeNow_5 : decode cX10_timeNow 5 = .ok (.invokevirtual 301, 3) := by decide +kernel
theorem dX10_timeNow_8 : decode cX10_timeNow 8 = .ok (.aload_n 0, 1) := by decide +kernel
theorem dX10_timeNow_9 : decode cX10_timeNow 9 = .ok (.invokevirtual 304, 3) := by decide +kernel
theorem dX10_timeNow_12 : decode cX10_timeNow 12 = .ok (.ireturn, 1) := by decide +kernel
theorem dX10_lostAt_0 : decode cX10_lostAt 0 = .ok (.aload_n 0, 1) := by decide +kernel
theorem dX10_lostAt_1 : decode cX10_lostAt 1 = .ok (.getfield 51, 3) := by decide +kernel
theorem dX10_lostAt_4 : decode cX10_lostAt 4 = .ok (.iload_n 1, 1) := by decide +kernel
theorem dX10_lostAt_5 : decode cX10_lostAt 5 = .ok (.iaload, 1) := by decide +kernel
theorem dX10_lostAt_6 : decode cX10_lostAt 6 = .ok (.iload_n 1, 1) := by decide +kernel
theorem dX10_lostAt_7 : decode cX10_lostAt 7 = .ok (.ifCond .ne 7, 3) := by decide +kernel
theorem dX10_lostAt_10 : decode cX10_lostAt 10 = .ok (.iconst 0, 1) := by decide +kernel
theorem dX10_lostAt_11 : decode cX10_lostAt 11 = .ok (.goto 22, 3) := by decide +kernel
theorem dX10_lostAt_14 : decode cX10_lostAt 14 = .ok (.aload_n 0, 1) := by decide +kernel
theorem dX10_lostAt_15 : decode cX10_lostAt 15 = .ok (.getfield 51, 3) := by decide +kernel
theorem dX10_lostAt_18 : decode cX10_lostAt 18 = .ok (.iload_n 1, 1) := by decide +kernel
theorem dX10_lostAt_19 : decode cX10_lostAt 19 = .ok (.iconst 1, 1) := by decide +kernel
theorem dX10_lostAt_20 : decode cX10_lostAt 20 = .ok (.isub, 1) := by decide +kernel
theorem dX10_lostAt_21 : decode cX10_lostAt 21 = .ok (.iaload, 1) := by decide +kernel
theorem dX10_lostAt_22 : decode cX10_lostAt 22 = .ok (.aload_n 0, 1) := by decide +kernel
theorem dX10_lostAt_23 : decode cX10_lostAt 23 = .ok (.aload_n 0, 1) := by decide +kernel
theorem dX10_lostAt_24 : decode cX10_lostAt 24 = .ok (.getfield 48, 3) := by decide +kernel
theorem dX10_lostAt_27 : decode cX10_lostAt 27 = .ok (.iload_n 1, 1) := by decide +kernel
theorem dX10_lostAt_28 : decode cX10_lostAt 28 = .ok (.iaload, 1) := by decide +kernel
theorem dX10_lostAt_29 : decode cX10_lostAt 29 = .ok (.invokevirtual 292, 3) := by decide +kernel
theorem dX10_lostAt_32 : decode cX10_lostAt 32 = .ok (.iadd, 1) := by decide +kernel
theorem dX10_lostAt_33 : decode cX10_lostAt 33 = .ok (.isub, 1) := by decide +kernel
theorem dX10_lostAt_34 : decode cX10_lostAt 34 = .ok (.ireturn, 1) := by decide +kernel
theorem dX10_steps_0 : decode cX10_steps 0 = .ok (.aload_n 0, 1) := by decide +kernel
theorem dX10_steps_1 : decode cX10_steps 1 = .ok (.invokevirtual 307, 3) := by decide +kernel
theorem dX10_steps_4 : decode cX10_steps 4 = .ok (.ifCond .ne 6, 3) := by decide +kernel
theorem dX10_steps_7 : decode cX10_steps 7 = .ok (.bipush (-2), 2) := by decide +kernel
theorem dX10_steps_9 : decode cX10_steps 9 = .ok (.ireturn, 1) := by decide +kernel
theorem dX10_steps_10 : decode cX10_steps 10 = .ok (.aload_n 0, 1) := by decide +kernel
theorem dX10_steps_11 : decode cX10_steps 11 = .ok (.invokevirtual 301, 3) := by decide +kernel
theorem dX10_steps_14 : decode cX10_steps 14 = .ok (.aload_n 0, 1) := by decide +kernel
theorem dX10_steps_15 : decode cX10_steps 15 = .ok (.getfield 263, 3) := by decide +kernel
theorem dX10_steps_18 : decode cX10_steps 18 = .ok (.ireturn, 1) := by decide +kernel
theorem dX10_why_0 : decode cX10_why 0 = .ok (.aload_n 0, 1) := by decide +kernel
theorem dX10_why_1 : decode cX10_why 1 = .ok (.invokevirtual 307, 3) := by decide +kernel
theorem dX10_why_4 : decode cX10_why 4 = .ok (.ifCond .ne 6, 3) := by decide +kernel
theorem dX10_why_7 : decode cX10_why 7 = .ok (.bipush (-2), 2) := by decide +kernel
theorem dX10_why_9 : decode cX10_why 9 = .ok (.ireturn, 1) := by decide +kernel
theorem dX10_why_10 : decode cX10_why 10 = .ok (.aload_n 0, 1) := by decide +kernel
theorem dX10_why_11 : decode cX10_why 11 = .ok (.invokevirtual 301, 3) := by decide +kernel
theorem dX10_why_14 : decode cX10_why 14 = .ok (.aload_n 0, 1) := by decide +kernel
theorem dX10_why_15 : decode cX10_why 15 = .ok (.getfield 269, 3) := by decide +kernel
theorem dX10_why_18 : decode cX10_why 18 = .ok (.ireturn, 1) := by decide +kernel
theorem dX10_acc_0 : decode cX10_acc 0 = .ok (.aload_n 0, 1) := by decide +kernel
theorem dX10_acc_1 : decode cX10_acc 1 = .ok (.invokevirtual 307, 3) := by decide +kernel
theorem dX10_acc_4 : decode cX10_acc 4 = .ok (.ifCond .ne 7, 3) := by decide +kernel
theorem dX10_acc_7 : decode cX10_acc 7 = .ok (.sipush (-20000), 3) := by decide +kernel
theorem dX10_acc_10 : decode cX10_acc 10 = .ok (.ireturn, 1) := by decide +kernel
theorem dX10_acc_11 : decode cX10_acc 11 = .ok (.aload_n 0, 1) := by decide +kernel
theorem dX10_acc_12 : decode cX10_acc 12 = .ok (.invokevirtual 301, 3) := by decide +kernel
theorem dX10_acc_15 : decode cX10_acc 15 = .ok (.aload_n 0, 1) := by decide +kernel
theorem dX10_acc_16 : decode cX10_acc 16 = .ok (.getfield 266, 3) := by decide +kernel
theorem dX10_acc_19 : decode cX10_acc 19 = .ok (.ireturn, 1) := by decide +kernel
theorem dX10_value_0 : decode cX10_value 0 = .ok (.aload_n 0, 1) := by decide +kernel
theorem dX10_value_1 : decode cX10_value 1 = .ok (.invokevirtual 307, 3) := by decide +kernel
theorem dX10_value_4 : decode cX10_value 4 = .ok (.ifCond .eq 24, 3) := by decide +kernel
theorem dX10_value_7 : decode cX10_value 7 = .ok (.aload_n 0, 1) := by decide +kernel
theorem dX10_value_8 : decode cX10_value 8 = .ok (.iload_n 1, 1) := by decide +kernel
theorem dX10_value_9 : decode cX10_value 9 = .ok (.invokevirtual 252, 3) := by decide +kernel
theorem dX10_value_12 : decode cX10_value 12 = .ok (.ifCond .eq 16, 3) := by decide +kernel
theorem dX10_value_15 : decode cX10_value 15 = .ok (.aload_n 0, 1) := by decide +kernel
theorem dX10_value_16 : decode cX10_value 16 = .ok (.getfield 7, 3) := by decide +kernel
theorem dX10_value_19 : decode cX10_value 19 = .ok (.bipush 9, 2) := by decide +kernel
theorem dX10_value_21 : decode cX10_value 21 = .ok (.iload_n 1, 1) := by decide +kernel
theorem dX10_value_22 : decode cX10_value 22 = .ok (.iadd, 1) := by decide +kernel
theorem dX10_value_23 : decode cX10_value 23 = .ok (.iaload, 1) := by decide +kernel
theorem dX10_value_24 : decode cX10_value 24 = .ok (.iconst 1, 1) := by decide +kernel
theorem dX10_value_25 : decode cX10_value 25 = .ok (.if_icmp .ne 7, 3) := by decide +kernel
theorem dX10_value_28 : decode cX10_value 28 = .ok (.sipush (-20000), 3) := by decide +kernel
theorem dX10_value_31 : decode cX10_value 31 = .ok (.ireturn, 1) := by decide +kernel
theorem dX10_value_32 : decode cX10_value 32 = .ok (.aload_n 0, 1) := by decide +kernel
theorem dX10_value_33 : decode cX10_value 33 = .ok (.invokevirtual 301, 3) := by decide +kernel
theorem dX10_value_36 : decode cX10_value 36 = .ok (.aload_n 0, 1) := by decide +kernel
theorem dX10_value_37 : decode cX10_value 37 = .ok (.getfield 66, 3) := by decide +kernel
theorem dX10_value_40 : decode cX10_value 40 = .ok (.iload_n 1, 1) := by decide +kernel
theorem dX10_value_41 : decode cX10_value 41 = .ok (.iaload, 1) := by decide +kernel
theorem dX10_value_42 : decode cX10_value 42 = .ok (.ireturn, 1) := by decide +kernel
theorem dX10_done_0 : decode cX10_done 0 = .ok (.aload_n 0, 1) := by decide +kernel
theorem dX10_done_1 : decode cX10_done 1 = .ok (.invokevirtual 307, 3) := by decide +kernel
theorem dX10_done_4 : decode cX10_done 4 = .ok (.ifCond .eq 19, 3) := by decide +kernel
theorem dX10_done_7 : decode cX10_done 7 = .ok (.iload_n 1, 1) := by decide +kernel
theorem dX10_done_8 : decode cX10_done 8 = .ok (.ifCond .lt 15, 3) := by decide +kernel
theorem dX10_done_11 : decode cX10_done 11 = .ok (.iload_n 2, 1) := by decide +kernel
theorem dX10_done_12 : decode cX10_done 12 = .ok (.i2l, 1) := by decide +kernel
theorem dX10_done_13 : decode cX10_done 13 = .ok (.lconst 0, 1) := by decide +kernel
theorem dX10_done_14 : decode cX10_done 14 = .ok (.ldc2_w 311, 3) := by decide +kernel
theorem dX10_done_17 : decode cX10_done 17 = .ok (.invokestatic 96, 3) := by decide +kernel
theorem dX10_done_20 : decode cX10_done 20 = .ok (.ifCond .ne 7, 3) := by decide +kernel
theorem dX10_done_23 : decode cX10_done 23 = .ok (.sipush (-20002), 3) := by decide +kernel
theorem dX10_done_26 : decode cX10_done 26 = .ok (.ireturn, 1) := by decide +kernel
theorem dX10_done_27 : decode cX10_done 27 = .ok (.aload_n 0, 1) := by decide +kernel
theorem dX10_done_28 : decode cX10_done 28 = .ok (.invokevirtual 313, 3) := by decide +kernel
theorem dX10_done_31 : decode cX10_done 31 = .ok (.istore_n 3, 1) := by decide +kernel
theorem dX10_done_32 : decode cX10_done 32 = .ok (.iload_n 1, 1) := by decide +kernel
theorem dX10_done_33 : decode cX10_done 33 = .ok (.aload_n 0, 1) := by decide +kernel
theorem dX10_done_34 : decode cX10_done 34 = .ok (.getfield 263, 3) := by decide +kernel
theorem dX10_done_37 : decode cX10_done 37 = .ok (.if_icmp .lt 7, 3) := by decide +kernel
theorem dX10_done_40 : decode cX10_done 40 = .ok (.sipush (-20001), 3) := by decide +kernel
theorem dX10_done_43 : decode cX10_done 43 = .ok (.ireturn, 1) := by decide +kernel
theorem dX10_done_44 : decode cX10_done 44 = .ok (.iload_n 2, 1) := by decide +kernel
theorem dX10_done_45 : decode cX10_done 45 = .ok (.tableswitch 85 0 3 #[31, 38, 45, 57], 31) := by decide +kernel
theorem dX10_done_76 : decode cX10_done 76 = .ok (.aload_n 0, 1) := by decide +kernel
theorem dX10_done_77 : decode cX10_done 77 = .ok (.getfield 54, 3) := by decide +kernel
theorem dX10_done_80 : decode cX10_done 80 = .ok (.iload_n 1, 1) := by decide +kernel
theorem dX10_done_81 : decode cX10_done 81 = .ok (.iaload, 1) := by decide +kernel
theorem dX10_done_82 : decode cX10_done 82 = .ok (.ireturn, 1) := by decide +kernel
theorem dX10_done_83 : decode cX10_done 83 = .ok (.aload_n 0, 1) := by decide +kernel
theorem dX10_done_84 : decode cX10_done 84 = .ok (.getfield 57, 3) := by decide +kernel
theorem dX10_done_87 : decode cX10_done 87 = .ok (.iload_n 1, 1) := by decide +kernel
theorem dX10_done_88 : decode cX10_done 88 = .ok (.iaload, 1) := by decide +kernel
theorem dX10_done_89 : decode cX10_done 89 = .ok (.ireturn, 1) := by decide +kernel
theorem dX10_done_90 : decode cX10_done 90 = .ok (.aload_n 0, 1) := by decide +kernel
theorem dX10_done_91 : decode cX10_done 91 = .ok (.getfield 51, 3) := by decide +kernel
theorem dX10_done_94 : decode cX10_done 94 = .ok (.aload_n 0, 1) := by decide +kernel
theorem dX10_done_95 : decode cX10_done 95 = .ok (.getfield 60, 3) := by decide +kernel
theorem dX10_done_98 : decode cX10_done 98 = .ok (.iload_n 1, 1) := by decide +kernel
theorem dX10_done_99 : decode cX10_done 99 = .ok (.iaload, 1) := by decide +kernel
theorem dX10_done_100 : decode cX10_done 100 = .ok (.iaload, 1) := by decide +kernel
theorem dX10_done_101 : decode cX10_done 101 = .ok (.ireturn, 1) := by decide +kernel
theorem dX10_done_102 : decode cX10_done 102 = .ok (.aload_n 0, 1) := by decide +kernel
theorem dX10_done_103 : decode cX10_done 103 = .ok (.getfield 57, 3) := by decide +kernel
theorem dX10_done_106 : decode cX10_done 106 = .ok (.iload_n 1, 1) := by decide +kernel
theorem dX10_done_107 : decode cX10_done 107 = .ok (.iaload, 1) := by decide +kernel
theorem dX10_done_108 : decode cX10_done 108 = .ok (.iconst (-1), 1) := by decide +kernel
theorem dX10_done_109 : decode cX10_done 109 = .ok (.if_icmp .ne 7, 3) := by decide +kernel
theorem dX10_done_112 : decode cX10_done 112 = .ok (.iconst (-1), 1) := by decide +kernel
theorem dX10_done_113 : decode cX10_done 113 = .ok (.goto 16, 3) := by decide +kernel
theorem dX10_done_116 : decode cX10_done 116 = .ok (.aload_n 0, 1) := by decide +kernel
theorem dX10_done_117 : decode cX10_done 117 = .ok (.getfield 51, 3) := by decide +kernel
theorem dX10_done_120 : decode cX10_done 120 = .ok (.aload_n 0, 1) := by decide +kernel
theorem dX10_done_121 : decode cX10_done 121 = .ok (.getfield 60, 3) := by decide +kernel
theorem dX10_done_124 : decode cX10_done 124 = .ok (.iload_n 1, 1) := by decide +kernel
theorem dX10_done_125 : decode cX10_done 125 = .ok (.iaload, 1) := by decide +kernel
theorem dX10_done_126 : decode cX10_done 126 = .ok (.iconst 1, 1) := by decide +kernel
theorem dX10_done_127 : decode cX10_done 127 = .ok (.iadd, 1) := by decide +kernel
theorem dX10_done_128 : decode cX10_done 128 = .ok (.iaload, 1) := by decide +kernel
theorem dX10_done_129 : decode cX10_done 129 = .ok (.ireturn, 1) := by decide +kernel
theorem dX10_done_130 : decode cX10_done 130 = .ok (.aload_n 0, 1) := by decide +kernel
theorem dX10_done_131 : decode cX10_done 131 = .ok (.getfield 63, 3) := by decide +kernel
theorem dX10_done_134 : decode cX10_done 134 = .ok (.iload_n 1, 1) := by decide +kernel
theorem dX10_done_135 : decode cX10_done 135 = .ok (.iaload, 1) := by decide +kernel
theorem dX10_done_136 : decode cX10_done 136 = .ok (.ireturn, 1) := by decide +kernel
theorem dX10_time_0 : decode cX10_time 0 = .ok (.aload_n 0, 1) := by decide +kernel
theorem dX10_time_1 : decode cX10_time 1 = .ok (.invokevirtual 307, 3) := by decide +kernel
theorem dX10_time_4 : decode cX10_time 4 = .ok (.ifCond .eq 10, 3) := by decide +kernel
theorem dX10_time_7 : decode cX10_time 7 = .ok (.aload_n 0, 1) := by decide +kernel
theorem dX10_time_8 : decode cX10_time 8 = .ok (.invokevirtual 313, 3) := by decide +kernel
theorem dX10_time_11 : decode cX10_time 11 = .ok (.goto 5, 3) := by decide +kernel
theorem dX10_time_14 : decode cX10_time 14 = .ok (.bipush (-2), 2) := by decide +kernel
theorem dX10_time_16 : decode cX10_time 16 = .ok (.ireturn, 1) := by decide +kernel
theorem dX10_rounds_0 : decode cX10_rounds 0 = .ok (.aload_n 0, 1) := by decide +kernel
theorem dX10_rounds_1 : decode cX10_rounds 1 = .ok (.invokevirtual 307, 3) := by decide +kernel
theorem dX10_rounds_4 : decode cX10_rounds 4 = .ok (.ifCond .eq 17, 3) := by decide +kernel
theorem dX10_rounds_7 : decode cX10_rounds 7 = .ok (.aload_n 0, 1) := by decide +kernel
theorem dX10_rounds_8 : decode cX10_rounds 8 = .ok (.invokevirtual 313, 3) := by decide +kernel
theorem dX10_rounds_11 : decode cX10_rounds 11 = .ok (.aload_n 0, 1) := by decide +kernel
theorem dX10_rounds_12 : decode cX10_rounds 12 = .ok (.getfield 7, 3) := by decide +kernel
theorem dX10_rounds_15 : decode cX10_rounds 15 = .ok (.iconst 1, 1) := by decide +kernel
theorem dX10_rounds_16 : decode cX10_rounds 16 = .ok (.iaload, 1) := by decide +kernel
theorem dX10_rounds_17 : decode cX10_rounds 17 = .ok (.idiv, 1) := by decide +kernel
theorem dX10_rounds_18 : decode cX10_rounds 18 = .ok (.goto 5, 3) := by decide +kernel
theorem dX10_rounds_21 : decode cX10_rounds 21 = .ok (.bipush (-2), 2) := by decide +kernel
theorem dX10_rounds_23 : decode cX10_rounds 23 = .ok (.ireturn, 1) := by decide +kernel
theorem dX10_lostOf_0 : decode cX10_lostOf 0 = .ok (.iconst 0, 1) := by decide +kernel
theorem dX10_lostOf_1 : decode cX10_lostOf 1 = .ok (.istore_n 2, 1) := by decide +kernel
theorem dX10_lostOf_2 : decode cX10_lostOf 2 = .ok (.iconst 0, 1) := by decide +kernel
theorem dX10_lostOf_3 : decode cX10_lostOf 3 = .ok (.istore_n 3, 1) := by decide +kernel
theorem dX10_lostOf_4 : decode cX10_lostOf 4 = .ok (.iload_n 3, 1) := by decide +kernel
theorem dX10_lostOf_5 : decode cX10_lostOf 5 = .ok (.aload_n 0, 1) := by decide +kernel
theorem dX10_lostOf_6 : decode cX10_lostOf 6 = .ok (.getfield 261, 3) := by decide +kernel
theorem dX10_lostOf_9 : decode cX10_lostOf 9 = .ok (.if_icmp .ge 36, 3) := by decide +kernel
theorem dX10_lostOf_12 : decode cX10_lostOf 12 = .ok (.iload_n 2, 1) := by decide +kernel
theorem dX10_lostOf_13 : decode cX10_lostOf 13 = .ok (.iload_n 1, 1) := by decide +kernel
theorem dX10_lostOf_14 : decode cX10_lostOf 14 = .ok (.iconst (-1), 1) := by decide +kernel
theorem dX10_lostOf_15 : decode cX10_lostOf 15 = .ok (.if_icmp .eq 13, 3) := by decide +kernel
theorem dX10_lostOf_18 : decode cX10_lostOf 18 = .ok (.aload_n 0, 1) := by decide +kernel
theorem dX10_lostOf_19 : decode cX10_lostOf 19 = .ok (.getfield 45, 3) := by decide +kernel
theorem dX10_lostOf_22 : decode cX10_lostOf 22 = .ok (.iload_n 3, 1) := by decide +kernel
theorem dX10_lostOf_23 : decode cX10_lostOf 23 = .ok (.iaload, 1) := by decide +kernel
theorem dX10_lostOf_24 : decode cX10_lostOf 24 = .ok (.iload_n 1, 1) := by decide +kernel
theorem dX10_lostOf_25 : decode cX10_lostOf 25 = .ok (.if_icmp .ne 11, 3) := by decide +kernel
theorem dX10_lostOf_28 : decode cX10_lostOf 28 = .ok (.aload_n 0, 1) := by decide +kernel
theorem dX10_lostOf_29 : decode cX10_lostOf 29 = .ok (.iload_n 3, 1) := by decide +kernel
theorem dX10_lostOf_30 : decode cX10_lostOf 30 = .ok (.invokevirtual 316, 3) := by decide +kernel
theorem dX10_lostOf_33 : decode cX10_lostOf 33 = .ok (.goto 4, 3) := by decide +kernel
theorem dX10_lostOf_36 : decode cX10_lostOf 36 = .ok (.iconst 0, 1) := by decide +kernel
theorem dX10_lostOf_37 : decode cX10_lostOf 37 = .ok (.iadd, 1) := by decide +kernel
theorem dX10_lostOf_38 : decode cX10_lostOf 38 = .ok (.istore_n 2, 1) := by decide +kernel
theorem dX10_lostOf_39 : decode cX10_lostOf 39 = .ok (.iinc 3 1, 3) := by decide +kernel
theorem dX10_lostOf_42 : decode cX10_lostOf 42 = .ok (.goto (-38), 3) := by decide +kernel
theorem dX10_lostOf_45 : decode cX10_lostOf 45 = .ok (.iload_n 2, 1) := by decide +kernel
theorem dX10_lostOf_46 : decode cX10_lostOf 46 = .ok (.ireturn, 1) := by decide +kernel
theorem dX10_lost_0 : decode cX10_lost 0 = .ok (.aload_n 0, 1) := by decide +kernel
theorem dX10_lost_1 : decode cX10_lost 1 = .ok (.invokevirtual 307, 3) := by decide +kernel
theorem dX10_lost_4 : decode cX10_lost 4 = .ok (.ifCond .ne 6, 3) := by decide +kernel
theorem dX10_lost_7 : decode cX10_lost 7 = .ok (.bipush (-2), 2) := by decide +kernel
theorem dX10_lost_9 : decode cX10_lost 9 = .ok (.ireturn, 1) := by decide +kernel
theorem dX10_lost_10 : decode cX10_lost 10 = .ok (.aload_n 0, 1) := by decide +kernel
theorem dX10_lost_11 : decode cX10_lost 11 = .ok (.invokevirtual 313, 3) := by decide +kernel
theorem dX10_lost_14 : decode cX10_lost 14 = .ok (.istore_n 1, 1) := by decide +kernel
theorem dX10_lost_15 : decode cX10_lost 15 = .ok (.aload_n 0, 1) := by decide +kernel
theorem dX10_lost_16 : decode cX10_lost 16 = .ok (.iconst (-1), 1) := by decide +kernel
theorem dX10_lost_17 : decode cX10_lost 17 = .ok (.invokevirtual 319, 3) := by decide +kernel
theorem dX10_lost_20 : decode cX10_lost 20 = .ok (.ireturn, 1) := by decide +kernel
theorem dX10_lostFor_0 : decode cX10_lostFor 0 = .ok (.aload_n 0, 1) := by decide +kernel
theorem dX10_lostFor_1 : decode cX10_lostFor 1 = .ok (.invokevirtual 307, 3) := by decide +kernel
theorem dX10_lostFor_4 : decode cX10_lostFor 4 = .ok (.ifCond .eq 11, 3) := by decide +kernel
theorem dX10_lostFor_7 : decode cX10_lostFor 7 = .ok (.aload_n 0, 1) := by decide +kernel
theorem dX10_lostFor_8 : decode cX10_lostFor 8 = .ok (.iload_n 1, 1) := by decide +kernel
theorem dX10_lostFor_9 : decode cX10_lostFor 9 = .ok (.invokevirtual 252, 3) := by decide +kernel
theorem dX10_lostFor_12 : decode cX10_lostFor 12 = .ok (.ifCond .ne 6, 3) := by decide +kernel
theorem dX10_lostFor_15 : decode cX10_lostFor 15 = .ok (.bipush (-2), 2) := by decide +kernel
theorem dX10_lostFor_17 : decode cX10_lostFor 17 = .ok (.ireturn, 1) := by decide +kernel
theorem dX10_lostFor_18 : decode cX10_lostFor 18 = .ok (.aload_n 0, 1) := by decide +kernel
theorem dX10_lostFor_19 : decode cX10_lostFor 19 = .ok (.invokevirtual 313, 3) := by decide +kernel
theorem dX10_lostFor_22 : decode cX10_lostFor 22 = .ok (.istore_n 2, 1) := by decide +kernel
theorem dX10_lostFor_23 : decode cX10_lostFor 23 = .ok (.aload_n 0, 1) := by decide +kernel
theorem dX10_lostFor_24 : decode cX10_lostFor 24 = .ok (.iload_n 1, 1) := by decide +kernel
theorem dX10_lostFor_25 : decode cX10_lostFor 25 = .ok (.invokevirtual 319, 3) := by decide +kernel
theorem dX10_lostFor_28 : decode cX10_lostFor 28 = .ok (.ireturn, 1) := by decide +kernel
theorem dX10_worst_0 : decode cX10_worst 0 = .ok (.aload_n 0, 1) := by decide +kernel
theorem dX10_worst_1 : decode cX10_worst 1 = .ok (.invokevirtual 307, 3) := by decide +kernel
theorem dX10_worst_4 : decode cX10_worst 4 = .ok (.ifCond .ne 6, 3) := by decide +kernel
theorem dX10_worst_7 : decode cX10_worst 7 = .ok (.bipush (-2), 2) := by decide +kernel
theorem dX10_worst_9 : decode cX10_worst 9 = .ok (.ireturn, 1) := by decide +kernel
theorem dX10_worst_10 : decode cX10_worst 10 = .ok (.aload_n 0, 1) := by decide +kernel
theorem dX10_worst_11 : decode cX10_worst 11 = .ok (.invokevirtual 313, 3) := by decide +kernel
theorem dX10_worst_14 : decode cX10_worst 14 = .ok (.istore_n 1, 1) := by decide +kernel
theorem dX10_worst_15 : decode cX10_worst 15 = .ok (.iconst (-1), 1) := by decide +kernel
theorem dX10_worst_16 : decode cX10_worst 16 = .ok (.istore_n 2, 1) := by decide +kernel
theorem dX10_worst_17 : decode cX10_worst 17 = .ok (.iconst 0, 1) := by decide +kernel
theorem dX10_worst_18 : decode cX10_worst 18 = .ok (.istore_n 3, 1) := by decide +kernel
theorem dX10_worst_19 : decode cX10_worst 19 = .ok (.iload_n 3, 1) := by decide +kernel
theorem dX10_worst_20 : decode cX10_worst 20 = .ok (.aload_n 0, 1) := by decide +kernel
theorem dX10_worst_21 : decode cX10_worst 21 = .ok (.getfield 7, 3) := by decide +kernel
theorem dX10_worst_24 : decode cX10_worst 24 = .ok (.iconst 5, 1) := by decide +kernel
theorem dX10_worst_25 : decode cX10_worst 25 = .ok (.iaload, 1) := by decide +kernel
theorem dX10_worst_26 : decode cX10_worst 26 = .ok (.if_icmp .ge 37, 3) := by decide +kernel
theorem dX10_worst_29 : decode cX10_worst 29 = .ok (.aload_n 0, 1) := by decide +kernel
theorem dX10_worst_30 : decode cX10_worst 30 = .ok (.iload_n 3, 1) := by decide +kernel
theorem dX10_worst_31 : decode cX10_worst 31 = .ok (.invokevirtual 319, 3) := by decide +kernel
theorem dX10_worst_34 : decode cX10_worst 34 = .ok (.iload_n 2, 1) := by decide +kernel
theorem dX10_worst_35 : decode cX10_worst 35 = .ok (.iconst (-1), 1) := by decide +kernel
theorem dX10_worst_36 : decode cX10_worst 36 = .ok (.if_icmp .ne 7, 3) := by decide +kernel
theorem dX10_worst_39 : decode cX10_worst 39 = .ok (.iconst 0, 1) := by decide +kernel
theorem dX10_worst_40 : decode cX10_worst 40 = .ok (.goto 8, 3) := by decide +kernel
theorem dX10_worst_43 : decode cX10_worst 43 = .ok (.aload_n 0, 1) := by decide +kernel
theorem dX10_worst_44 : decode cX10_worst 44 = .ok (.iload_n 2, 1) := by decide +kernel
theorem dX10_worst_45 : decode cX10_worst 45 = .ok (.invokevirtual 319, 3) := by decide +kernel
theorem dX10_worst_48 : decode cX10_worst 48 = .ok (.if_icmp .le 7, 3) := by decide +kernel
theorem dX10_worst_51 : decode cX10_worst 51 = .ok (.iload_n 3, 1) := by decide +kernel
theorem dX10_worst_52 : decode cX10_worst 52 = .ok (.goto 4, 3) := by decide +kernel
theorem dX10_worst_55 : decode cX10_worst 55 = .ok (.iload_n 2, 1) := by decide +kernel
theorem dX10_worst_56 : decode cX10_worst 56 = .ok (.istore_n 2, 1) := by decide +kernel
theorem dX10_worst_57 : decode cX10_worst 57 = .ok (.iinc 3 1, 3) := by decide +kernel
theorem dX10_worst_60 : decode cX10_worst 60 = .ok (.goto (-41), 3) := by decide +kernel
theorem dX10_worst_63 : decode cX10_worst 63 = .ok (.iload_n 2, 1) := by decide +kernel
theorem dX10_worst_64 : decode cX10_worst 64 = .ok (.ireturn, 1) := by decide +kernel
theorem dX10_met_0 : decode cX10_met 0 = .ok (.aload_n 0, 1) := by decide +kernel
theorem dX10_met_1 : decode cX10_met 1 = .ok (.invokevirtual 307, 3) := by decide +kernel
theorem dX10_met_4 : decode cX10_met 4 = .ok (.ifCond .eq 11, 3) := by decide +kernel
theorem dX10_met_7 : decode cX10_met 7 = .ok (.aload_n 0, 1) := by decide +kernel
theorem dX10_met_8 : decode cX10_met 8 = .ok (.iload_n 1, 1) := by decide +kernel
theorem dX10_met_9 : decode cX10_met 9 = .ok (.invokevirtual 252, 3) := by decide +kernel
theorem dX10_met_12 : decode cX10_met 12 = .ok (.ifCond .ne 6, 3) := by decide +kernel
theorem dX10_met_15 : decode cX10_met 15 = .ok (.bipush (-2), 2) := by decide +kernel
theorem dX10_met_17 : decode cX10_met 17 = .ok (.ireturn, 1) := by decide +kernel
theorem dX10_met_18 : decode cX10_met 18 = .ok (.aload_n 0, 1) := by decide +kernel
theorem dX10_met_19 : decode cX10_met 19 = .ok (.invokevirtual 301, 3) := by decide +kernel
theorem dX10_met_22 : decode cX10_met 22 = .ok (.iconst 0, 1) := by decide +kernel
theorem dX10_met_23 : decode cX10_met 23 = .ok (.istore_n 2, 1) := by decide +kernel
theorem dX10_met_24 : decode cX10_met 24 = .ok (.iconst 0, 1) := by decide +kernel
theorem dX10_met_25 : decode cX10_met 25 = .ok (.istore_n 3, 1) := by decide +kernel
theorem dX10_met_26 : decode cX10_met 26 = .ok (.iload_n 3, 1) := by decide +kernel
theorem dX10_met_27 : decode cX10_met 27 = .ok (.aload_n 0, 1) := by decide +kernel
theorem dX10_met_28 : decode cX10_met 28 = .ok (.getfield 261, 3) := by decide +kernel
theorem dX10_met_31 : decode cX10_met 31 = .ok (.if_icmp .ge 27, 3) := by decide +kernel
theorem dX10_met_34 : decode cX10_met 34 = .ok (.iload_n 2, 1) := by decide +kernel
theorem dX10_met_35 : decode cX10_met 35 = .ok (.aload_n 0, 1) := by decide +kernel
theorem dX10_met_36 : decode cX10_met 36 = .ok (.getfield 45, 3) := by decide +kernel
theorem dX10_met_39 : decode cX10_met 39 = .ok (.iload_n 3, 1) := by decide +kernel
theorem dX10_met_40 : decode cX10_met 40 = .ok (.iaload, 1) := by decide +kernel
theorem dX10_met_41 : decode cX10_met 41 = .ok (.iload_n 1, 1) := by decide +kernel
theorem dX10_met_42 : decode cX10_met 42 = .ok (.if_icmp .ne 7, 3) := by decide +kernel
theorem dX10_met_45 : decode cX10_met 45 = .ok (.iconst 1, 1) := by decide +kernel
theorem dX10_met_46 : decode cX10_met 46 = .ok (.goto 4, 3) := by decide +kernel
theorem dX10_met_49 : decode cX10_met 49 = .ok (.iconst 0, 1) := by decide +kernel
theorem dX10_met_50 : decode cX10_met 50 = .ok (.iadd, 1) := by decide +kernel
theorem dX10_met_51 : decode cX10_met 51 = .ok (.istore_n 2, 1) := by decide +kernel
theorem dX10_met_52 : decode cX10_met 52 = .ok (.iinc 3 1, 3) := by decide +kernel
theorem dX10_met_55 : decode cX10_met 55 = .ok (.goto (-29), 3) := by decide +kernel
theorem dX10_met_58 : decode cX10_met 58 = .ok (.iload_n 2, 1) := by decide +kernel
theorem dX10_met_59 : decode cX10_met 59 = .ok (.ireturn, 1) := by decide +kernel
theorem dX10_bound_0 : decode cX10_bound 0 = .ok (.aload_n 0, 1) := by decide +kernel
theorem dX10_bound_1 : decode cX10_bound 1 = .ok (.invokevirtual 307, 3) := by decide +kernel
theorem dX10_bound_4 : decode cX10_bound 4 = .ok (.ifCond .eq 23, 3) := by decide +kernel
theorem dX10_bound_7 : decode cX10_bound 7 = .ok (.aload_n 0, 1) := by decide +kernel
theorem dX10_bound_8 : decode cX10_bound 8 = .ok (.invokevirtual 313, 3) := by decide +kernel
theorem dX10_bound_11 : decode cX10_bound 11 = .ok (.aload_n 0, 1) := by decide +kernel
theorem dX10_bound_12 : decode cX10_bound 12 = .ok (.iconst (-1), 1) := by decide +kernel
theorem dX10_bound_13 : decode cX10_bound 13 = .ok (.invokevirtual 319, 3) := by decide +kernel
theorem dX10_bound_16 : decode cX10_bound 16 = .ok (.isub, 1) := by decide +kernel
theorem dX10_bound_17 : decode cX10_bound 17 = .ok (.aload_n 0, 1) := by decide +kernel
theorem dX10_bound_18 : decode cX10_bound 18 = .ok (.getfield 51, 3) := by decide +kernel
theorem dX10_bound_21 : decode cX10_bound 21 = .ok (.iconst 0, 1) := by decide +kernel
theorem dX10_bound_22 : decode cX10_bound 22 = .ok (.iaload, 1) := by decide +kernel
theorem dX10_bound_23 : decode cX10_bound 23 = .ok (.iadd, 1) := by decide +kernel
theorem dX10_bound_24 : decode cX10_bound 24 = .ok (.goto 5, 3) := by decide +kernel
theorem dX10_bound_27 : decode cX10_bound 27 = .ok (.bipush (-2), 2) := by decide +kernel
theorem dX10_bound_29 : decode cX10_bound 29 = .ok (.ireturn, 1) := by decide +kernel
theorem dX10_waiting_0 : decode cX10_waiting 0 = .ok (.aload_n 0, 1) := by decide +kernel
theorem dX10_waiting_1 : decode cX10_waiting 1 = .ok (.invokevirtual 307, 3) := by decide +kernel
theorem dX10_waiting_4 : decode cX10_waiting 4 = .ok (.ifCond .eq 15, 3) := by decide +kernel
theorem dX10_waiting_7 : decode cX10_waiting 7 = .ok (.iload_n 1, 1) := by decide +kernel
theorem dX10_waiting_8 : decode cX10_waiting 8 = .ok (.i2l, 1) := by decide +kernel
theorem dX10_waiting_9 : decode cX10_waiting 9 = .ok (.lconst 0, 1) := by decide +kernel
theorem dX10_waiting_10 : decode cX10_waiting 10 = .ok (.ldc2_w 322, 3) := by decide +kernel
theorem dX10_waiting_13 : decode cX10_waiting 13 = .ok (.invokestatic 96, 3) := by decide +kernel
theorem dX10_waiting_16 : decode cX10_waiting 16 = .ok (.ifCond .ne 6, 3) := by decide +kernel
theorem dX10_waiting_19 : decode cX10_waiting 19 = .ok (.bipush (-2), 2) := by decide +kernel
theorem dX10_waiting_21 : decode cX10_waiting 21 = .ok (.ireturn, 1) := by decide +kernel
theorem dX10_waiting_22 : decode cX10_waiting 22 = .ok (.aload_n 0, 1) := by decide +kernel
theorem dX10_waiting_23 : decode cX10_waiting 23 = .ok (.invokevirtual 298, 3) := by decide +kernel
theorem dX10_waiting_26 : decode cX10_waiting 26 = .ok (.aload_n 0, 1) := by decide +kernel
theorem dX10_waiting_27 : decode cX10_waiting 27 = .ok (.iload_n 1, 1) := by decide +kernel
theorem dX10_waiting_28 : decode cX10_waiting 28 = .ok (.putfield 288, 3) := by decide +kernel
theorem dX10_waiting_31 : decode cX10_waiting 31 = .ok (.aload_n 0, 1) := by decide +kernel
theorem dX10_waiting_32 : decode cX10_waiting 32 = .ok (.invokevirtual 301, 3) := by decide +kernel
theorem dX10_waiting_35 : decode cX10_waiting 35 = .ok (.aload_n 0, 1) := by decide +kernel
theorem dX10_waiting_36 : decode cX10_waiting 36 = .ok (.invokevirtual 304, 3) := by decide +kernel
theorem dX10_waiting_39 : decode cX10_waiting 39 = .ok (.ireturn, 1) := by decide +kernel
theorem dX10_quicker_0 : decode cX10_quicker 0 = .ok (.aload_n 0, 1) := by decide +kernel
theorem dX10_quicker_1 : decode cX10_quicker 1 = .ok (.invokevirtual 307, 3) := by decide +kernel
theorem dX10_quicker_4 : decode cX10_quicker 4 = .ok (.ifCond .eq 11, 3) := by decide +kernel
theorem dX10_quicker_7 : decode cX10_quicker 7 = .ok (.aload_n 0, 1) := by decide +kernel
theorem dX10_quicker_8 : decode cX10_quicker 8 = .ok (.iload_n 1, 1) := by decide +kernel
theorem dX10_quicker_9 : decode cX10_quicker 9 = .ok (.invokevirtual 181, 3) := by decide +kernel
theorem dX10_quicker_12 : decode cX10_quicker 12 = .ok (.ifCond .ne 6, 3) := by decide +kernel
theorem dX10_quicker_15 : decode cX10_quicker 15 = .ok (.bipush (-2), 2) := by decide +kernel
theorem dX10_quicker_17 : decode cX10_quicker 17 = .ok (.ireturn, 1) := by decide +kernel
theorem dX10_quicker_18 : decode cX10_quicker 18 = .ok (.aload_n 0, 1) := by decide +kernel
theorem dX10_quicker_19 : decode cX10_quicker 19 = .ok (.invokevirtual 298, 3) := by decide +kernel
theorem dX10_quicker_22 : decode cX10_quicker 22 = .ok (.aload_n 0, 1) := by decide +kernel
theorem dX10_quicker_23 : decode cX10_quicker 23 = .ok (.iload_n 1, 1) := by decide +kernel
theorem dX10_quicker_24 : decode cX10_quicker 24 = .ok (.putfield 290, 3) := by decide +kernel
theorem dX10_quicker_27 : decode cX10_quicker 27 = .ok (.aload_n 0, 1) := by decide +kernel
theorem dX10_quicker_28 : decode cX10_quicker 28 = .ok (.invokevirtual 301, 3) := by decide +kernel
theorem dX10_quicker_31 : decode cX10_quicker 31 = .ok (.aload_n 0, 1) := by decide +kernel
theorem dX10_quicker_32 : decode cX10_quicker 32 = .ok (.invokevirtual 304, 3) := by decide +kernel
theorem dX10_quicker_35 : decode cX10_quicker 35 = .ok (.ireturn, 1) := by decide +kernel
theorem dX10_timeMoved_0 : decode cX10_timeMoved 0 = .ok (.aload_n 0, 1) := by decide +kernel
theorem dX10_timeMoved_1 : decode cX10_timeMoved 1 = .ok (.getfield 72, 3) := by decide +kernel
theorem dX10_timeMoved_4 : decode cX10_timeMoved 4 = .ok (.iload_n 1, 1) := by decide +kernel
theorem dX10_timeMoved_5 : decode cX10_timeMoved 5 = .ok (.iaload, 1) := by decide +kernel
theorem dX10_timeMoved_6 : decode cX10_timeMoved 6 = .ok (.istore_n 3, 1) := by decide +kernel
theorem dX10_timeMoved_7 : decode cX10_timeMoved 7 = .ok (.aload_n 0, 1) := by decide +kernel
theorem dX10_timeMoved_8 : decode cX10_timeMoved 8 = .ok (.getfield 72, 3) := by decide +kernel
theorem dX10_timeMoved_11 : decode cX10_timeMoved 11 = .ok (.iload_n 1, 1) := by decide +kernel
theorem dX10_timeMoved_12 : decode cX10_timeMoved 12 = .ok (.iload_n 2, 1) := by decide +kernel
theorem dX10_timeMoved_13 : decode cX10_timeMoved 13 = .ok (.iastore, 1) := by decide +kernel
theorem dX10_timeMoved_14 : decode cX10_timeMoved 14 = .ok (.aload_n 0, 1) := by decide +kernel
