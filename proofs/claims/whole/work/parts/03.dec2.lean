theorem dX7_isLineWord_21 : decode cX7_isLineWord 21 = .ok (.invokevirtual 68, 3) := by decide +kernel
theorem dX7_isLineWord_24 : decode cX7_isLineWord 24 = .ok (.ifCond .ne 12, 3) := by decide +kernel
theorem dX7_isLineWord_27 : decode cX7_isLineWord 27 = .ok (.aload_n 0, 1) := by decide +kernel
theorem dX7_isLineWord_28 : decode cX7_isLineWord 28 = .ok (.ldc 76, 2) := by decide +kernel
theorem dX7_isLineWord_30 : decode cX7_isLineWord 30 = .ok (.invokevirtual 68, 3) := by decide +kernel
theorem dX7_isLineWord_33 : decode cX7_isLineWord 33 = .ok (.ifCond .eq 7, 3) := by decide +kernel
theorem dX7_isLineWord_36 : decode cX7_isLineWord 36 = .ok (.iconst 1, 1) := by decide +kernel
theorem dX7_isLineWord_37 : decode cX7_isLineWord 37 = .ok (.goto 4, 3) := by decide +kernel
theorem dX7_isLineWord_40 : decode cX7_isLineWord 40 = .ok (.iconst 0, 1) := by decide +kernel
theorem dX7_isLineWord_41 : decode cX7_isLineWord 41 = .ok (.ireturn, 1) := by decide +kernel
theorem dX7_operation_0 : decode cX7_operation 0 = .ok (.aload_n 0, 1) := by decide +kernel
theorem dX7_operation_1 : decode cX7_operation 1 = .ok (.ldc 78, 2) := by decide +kernel
theorem dX7_operation_3 : decode cX7_operation 3 = .ok (.invokevirtual 68, 3) := by decide +kernel
theorem dX7_operation_6 : decode cX7_operation 6 = .ok (.ifCond .eq 5, 3) := by decide +kernel
theorem dX7_operation_9 : decode cX7_operation 9 = .ok (.iconst 0, 1) := by decide +kernel
theorem dX7_operation_10 : decode cX7_operation 10 = .ok (.ireturn, 1) := by decide +kernel
theorem dX7_operation_11 : decode cX7_operation 11 = .ok (.aload_n 0, 1) := by decide +kernel
theorem dX7_operation_12 : decode cX7_operation 12 = .ok (.ldc 80, 2) := by decide +kernel
theorem dX7_operation_14 : decode cX7_operation 14 = .ok (.invokevirtual 68, 3) := by decide +kernel
theorem dX7_operation_17 : decode cX7_operation 17 = .ok (.ifCond .eq 5, 3) := by decide +kernel
theorem dX7_operation_20 : decode cX7_operation 20 = .ok (.iconst 1, 1) := by decide +kernel
theorem dX7_operation_21 : decode cX7_operation 21 = .ok (.ireturn, 1) := by decide +kernel
theorem dX7_operation_22 : decode cX7_operation 22 = .ok (.aload_n 0, 1) := by decide +kernel
theorem dX7_operation_23 : decode cX7_operation 23 = .ok (.ldc 82, 2) := by decide +kernel
theorem dX7_operation_25 : decode cX7_operation 25 = .ok (.invokevirtual 68, 3) := by decide +kernel
theorem dX7_operation_28 : decode cX7_operation 28 = .ok (.ifCond .eq 5, 3) := by decide +kernel
theorem dX7_operation_31 : decode cX7_operation 31 = .ok (.iconst 2, 1) := by decide +kernel
theorem dX7_operation_32 : decode cX7_operation 32 = .ok (.ireturn, 1) := by decide +kernel
theorem dX7_operation_33 : decode cX7_operation 33 = .ok (.aload_n 0, 1) := by decide +kernel
theorem dX7_operation_34 : decode cX7_operation 34 = .ok (.ldc 84, 2) := by decide +kernel
theorem dX7_operation_36 : decode cX7_operation 36 = .ok (.invokevirtual 68, 3) := by decide +kernel
theorem dX7_operation_39 : decode cX7_operation 39 = .ok (.ifCond .eq 5, 3) := by decide +kernel
theorem dX7_operation_42 : decode cX7_operation 42 = .ok (.iconst 3, 1) := by decide +kernel
theorem dX7_operation_43 : decode cX7_operation 43 = .ok (.ireturn, 1) := by decide +kernel
theorem dX7_operation_44 : decode cX7_operation 44 = .ok (.aload_n 0, 1) := by decide +kernel
theorem dX7_operation_45 : decode cX7_operation 45 = .ok (.ldc 86, 2) := by decide +kernel
theorem dX7_operation_47 : decode cX7_operation 47 = .ok (.invokevirtual 68, 3) := by decide +kernel
theorem dX7_operation_50 : decode cX7_operation 50 = .ok (.ifCond .eq 5, 3) := by decide +kernel
theorem dX7_operation_53 : decode cX7_operation 53 = .ok (.iconst 4, 1) := by decide +kernel
theorem dX7_operation_54 : decode cX7_operation 54 = .ok (.ireturn, 1) := by decide +kernel
theorem dX7_operation_55 : decode cX7_operation 55 = .ok (.aload_n 0, 1) := by decide +kernel
theorem dX7_operation_56 : decode cX7_operation 56 = .ok (.ldc 88, 2) := by decide +kernel
theorem dX7_operation_58 : decode cX7_operation 58 = .ok (.invokevirtual 68, 3) := by decide +kernel
theorem dX7_operation_61 : decode cX7_operation 61 = .ok (.ifCond .eq 5, 3) := by decide +kernel
theorem dX7_operation_64 : decode cX7_operation 64 = .ok (.iconst 5, 1) := by decide +kernel
theorem dX7_operation_65 : decode cX7_operation 65 = .ok (.ireturn, 1) := by decide +kernel
theorem dX7_operation_66 : decode cX7_operation 66 = .ok (.aload_n 0, 1) := by decide +kernel
theorem dX7_operation_67 : decode cX7_operation 67 = .ok (.ldc 90, 2) := by decide +kernel
theorem dX7_operation_69 : decode cX7_operation 69 = .ok (.invokevirtual 68, 3) := by decide +kernel
theorem dX7_operation_72 : decode cX7_operation 72 = .ok (.ifCond .eq 6, 3) := by decide +kernel
theorem dX7_operation_75 : decode cX7_operation 75 = .ok (.bipush 6, 2) := by decide +kernel
theorem dX7_operation_77 : decode cX7_operation 77 = .ok (.ireturn, 1) := by decide +kernel
theorem dX7_operation_78 : decode cX7_operation 78 = .ok (.aload_n 0, 1) := by decide +kernel
theorem dX7_operation_79 : decode cX7_operation 79 = .ok (.ldc 92, 2) := by decide +kernel
theorem dX7_operation_81 : decode cX7_operation 81 = .ok (.invokevirtual 68, 3) := by decide +kernel
theorem dX7_operation_84 : decode cX7_operation 84 = .ok (.ifCond .eq 8, 3) := by decide +kernel
theorem dX7_operation_87 : decode cX7_operation 87 = .ok (.bipush 7, 2) := by decide +kernel
theorem dX7_operation_89 : decode cX7_operation 89 = .ok (.goto 4, 3) := by decide +kernel
theorem dX7_operation_92 : decode cX7_operation 92 = .ok (.iconst (-1), 1) := by decide +kernel
theorem dX7_operation_93 : decode cX7_operation 93 = .ok (.ireturn, 1) := by decide +kernel
theorem dX7_skipBlanks_0 : decode cX7_skipBlanks 0 = .ok (.aload_n 0, 1) := by decide +kernel
theorem dX7_skipBlanks_1 : decode cX7_skipBlanks 1 = .ok (.getfield 24, 3) := by decide +kernel
theorem dX7_skipBlanks_4 : decode cX7_skipBlanks 4 = .ok (.sipush 700, 3) := by decide +kernel
theorem dX7_skipBlanks_7 : decode cX7_skipBlanks 7 = .ok (.if_icmp .ge 33, 3) := by decide +kernel
theorem dX7_skipBlanks_10 : decode cX7_skipBlanks 10 = .ok (.aload_n 0, 1) := by decide +kernel
theorem dX7_skipBlanks_11 : decode cX7_skipBlanks 11 = .ok (.getfield 27, 3) := by decide +kernel
theorem dX7_skipBlanks_14 : decode cX7_skipBlanks 14 = .ok (.aload_n 0, 1) := by decide +kernel
theorem dX7_skipBlanks_15 : decode cX7_skipBlanks 15 = .ok (.getfield 24, 3) := by decide +kernel
theorem dX7_skipBlanks_18 : decode cX7_skipBlanks 18 = .ok (.invokevirtual 37, 3) := by decide +kernel
theorem dX7_skipBlanks_21 : decode cX7_skipBlanks 21 = .ok (.invokestatic 94, 3) := by decide +kernel
theorem dX7_skipBlanks_24 : decode cX7_skipBlanks 24 = .ok (.ifCond .eq 16, 3) := by decide +kernel
theorem dX7_skipBlanks_27 : decode cX7_skipBlanks 27 = .ok (.aload_n 0, 1) := by decide +kernel
theorem dX7_skipBlanks_28 : decode cX7_skipBlanks 28 = .ok (.dup, 1) := by decide +kernel
theorem dX7_skipBlanks_29 : decode cX7_skipBlanks 29 = .ok (.getfield 24, 3) := by decide +kernel
theorem dX7_skipBlanks_32 : decode cX7_skipBlanks 32 = .ok (.iconst 1, 1) := by decide +kernel
theorem dX7_skipBlanks_33 : decode cX7_skipBlanks 33 = .ok (.iadd, 1) := by decide +kernel
theorem dX7_skipBlanks_34 : decode cX7_skipBlanks 34 = .ok (.putfield 24, 3) := by decide +kernel
theorem dX7_skipBlanks_37 : decode cX7_skipBlanks 37 = .ok (.goto (-37), 3) := by decide +kernel
theorem dX7_skipBlanks_40 : decode cX7_skipBlanks 40 = .ok (.return_, 1) := by decide +kernel
theorem dX7_takeLetters_0 : decode cX7_takeLetters 0 = .ok (.aload_n 0, 1) := by decide +kernel
theorem dX7_takeLetters_1 : decode cX7_takeLetters 1 = .ok (.iconst 0, 1) := by decide +kernel
theorem dX7_takeLetters_2 : decode cX7_takeLetters 2 = .ok (.putfield 21, 3) := by decide +kernel
theorem dX7_takeLetters_5 : decode cX7_takeLetters 5 = .ok (.aload_n 0, 1) := by decide +kernel
theorem dX7_takeLetters_6 : decode cX7_takeLetters 6 = .ok (.getfield 24, 3) := by decide +kernel
theorem dX7_takeLetters_9 : decode cX7_takeLetters 9 = .ok (.sipush 700, 3) := by decide +kernel
theorem dX7_takeLetters_12 : decode cX7_takeLetters 12 = .ok (.if_icmp .ge 89, 3) := by decide +kernel
theorem dX7_takeLetters_15 : decode cX7_takeLetters 15 = .ok (.aload_n 0, 1) := by decide +kernel
theorem dX7_takeLetters_16 : decode cX7_takeLetters 16 = .ok (.getfield 27, 3) := by decide +kernel
theorem dX7_takeLetters_19 : decode cX7_takeLetters 19 = .ok (.aload_n 0, 1) := by decide +kernel
theorem dX7_takeLetters_20 : decode cX7_takeLetters 20 = .ok (.getfield 24, 3) := by decide +kernel
theorem dX7_takeLetters_23 : decode cX7_takeLetters 23 = .ok (.invokevirtual 37, 3) := by decide +kernel
theorem dX7_takeLetters_26 : decode cX7_takeLetters 26 = .ok (.invokestatic 43, 3) := by decide +kernel
theorem dX7_takeLetters_29 : decode cX7_takeLetters 29 = .ok (.ifCond .eq 72, 3) := by decide +kernel
theorem dX7_takeLetters_32 : decode cX7_takeLetters 32 = .ok (.aload_n 0, 1) := by decide +kernel
theorem dX7_takeLetters_33 : decode cX7_takeLetters 33 = .ok (.getfield 24, 3) := by decide +kernel
theorem dX7_takeLetters_36 : decode cX7_takeLetters 36 = .ok (.aload_n 0, 1) := by decide +kernel
theorem dX7_takeLetters_37 : decode cX7_takeLetters 37 = .ok (.getfield 15, 3) := by decide +kernel
theorem dX7_takeLetters_40 : decode cX7_takeLetters 40 = .ok (.isub, 1) := by decide +kernel
theorem dX7_takeLetters_41 : decode cX7_takeLetters 41 = .ok (.bipush 6, 2) := by decide +kernel
theorem dX7_takeLetters_43 : decode cX7_takeLetters 43 = .ok (.if_icmp .ge 7, 3) := by decide +kernel
theorem dX7_takeLetters_46 : decode cX7_takeLetters 46 = .ok (.iconst 1, 1) := by decide +kernel
theorem dX7_takeLetters_47 : decode cX7_takeLetters 47 = .ok (.goto 4, 3) := by decide +kernel
theorem dX7_takeLetters_50 : decode cX7_takeLetters 50 = .ok (.iconst 0, 1) := by decide +kernel
theorem dX7_takeLetters_51 : decode cX7_takeLetters 51 = .ok (.istore_n 1, 1) := by decide +kernel
theorem dX7_takeLetters_52 : decode cX7_takeLetters 52 = .ok (.aload_n 0, 1) := by decide +kernel
theorem dX7_takeLetters_53 : decode cX7_takeLetters 53 = .ok (.iload_n 1, 1) := by decide +kernel
theorem dX7_takeLetters_54 : decode cX7_takeLetters 54 = .ok (.ifCond .eq 30, 3) := by decide +kernel
theorem dX7_takeLetters_57 : decode cX7_takeLetters 57 = .ok (.aload_n 0, 1) := by decide +kernel
theorem dX7_takeLetters_58 : decode cX7_takeLetters 58 = .ok (.getfield 21, 3) := by decide +kernel
theorem dX7_takeLetters_61 : decode cX7_takeLetters 61 = .ok (.bipush 27, 2) := by decide +kernel
theorem dX7_takeLetters_63 : decode cX7_takeLetters 63 = .ok (.imul, 1) := by decide +kernel
theorem dX7_takeLetters_64 : decode cX7_takeLetters 64 = .ok (.aload_n 0, 1) := by decide +kernel
theorem dX7_takeLetters_65 : decode cX7_takeLetters 65 = .ok (.getfield 27, 3) := by decide +kernel
theorem dX7_takeLetters_68 : decode cX7_takeLetters 68 = .ok (.aload_n 0, 1) := by decide +kernel
theorem dX7_takeLetters_69 : decode cX7_takeLetters 69 = .ok (.getfield 24, 3) := by decide +kernel
theorem dX7_takeLetters_72 : decode cX7_takeLetters 72 = .ok (.invokevirtual 37, 3) := by decide +kernel
theorem dX7_takeLetters_75 : decode cX7_takeLetters 75 = .ok (.iadd, 1) := by decide +kernel
theorem dX7_takeLetters_76 : decode cX7_takeLetters 76 = .ok (.bipush 97, 2) := by decide +kernel
theorem dX7_takeLetters_78 : decode cX7_takeLetters 78 = .ok (.isub, 1) := by decide +kernel
theorem dX7_takeLetters_79 : decode cX7_takeLetters 79 = .ok (.iconst 1, 1) := by decide +kernel
theorem dX7_takeLetters_80 : decode cX7_takeLetters 80 = .ok (.iadd, 1) := by decide +kernel
theorem dX7_takeLetters_81 : decode cX7_takeLetters 81 = .ok (.goto 4, 3) := by decide +kernel
theorem dX7_takeLetters_84 : decode cX7_takeLetters 84 = .ok (.iconst (-1), 1) := by decide +kernel
theorem dX7_takeLetters_85 : decode cX7_takeLetters 85 = .ok (.putfield 21, 3) := by decide +kernel
theorem dX7_takeLetters_88 : decode cX7_takeLetters 88 = .ok (.aload_n 0, 1) := by decide +kernel
theorem dX7_takeLetters_89 : decode cX7_takeLetters 89 = .ok (.dup, 1) := by decide +kernel
theorem dX7_takeLetters_90 : decode cX7_takeLetters 90 = .ok (.getfield 24, 3) := by decide +kernel
theorem dX7_takeLetters_93 : decode cX7_takeLetters 93 = .ok (.iconst 1, 1) := by decide +kernel
theorem dX7_takeLetters_94 : decode cX7_takeLetters 94 = .ok (.iadd, 1) := by decide +kernel
theorem dX7_takeLetters_95 : decode cX7_takeLetters 95 = .ok (.putfield 24, 3) := by decide +kernel
theorem dX7_takeLetters_98 : decode cX7_takeLetters 98 = .ok (.goto (-93), 3) := by decide +kernel
theorem dX7_takeLetters_101 : decode cX7_takeLetters 101 = .ok (.return_, 1) := by decide +kernel
theorem dX7_takeDigits_0 : decode cX7_takeDigits 0 = .ok (.aload_n 0, 1) := by decide +kernel
theorem dX7_takeDigits_1 : decode cX7_takeDigits 1 = .ok (.iconst 0, 1) := by decide +kernel
theorem dX7_takeDigits_2 : decode cX7_takeDigits 2 = .ok (.putfield 18, 3) := by decide +kernel
theorem dX7_takeDigits_5 : decode cX7_takeDigits 5 = .ok (.aload_n 0, 1) := by decide +kernel
theorem dX7_takeDigits_6 : decode cX7_takeDigits 6 = .ok (.getfield 24, 3) := by decide +kernel
theorem dX7_takeDigits_9 : decode cX7_takeDigits 9 = .ok (.sipush 700, 3) := by decide +kernel
theorem dX7_takeDigits_12 : decode cX7_takeDigits 12 = .ok (.if_icmp .ge 64, 3) := by decide +kernel
theorem dX7_takeDigits_15 : decode cX7_takeDigits 15 = .ok (.aload_n 0, 1) := by decide +kernel
theorem dX7_takeDigits_16 : decode cX7_takeDigits 16 = .ok (.getfield 27, 3) := by decide +kernel
theorem dX7_takeDigits_19 : decode cX7_takeDigits 19 = .ok (.aload_n 0, 1) := by decide +kernel
theorem dX7_takeDigits_20 : decode cX7_takeDigits 20 = .ok (.getfield 24, 3) := by decide +kernel
theorem dX7_takeDigits_23 : decode cX7_takeDigits 23 = .ok (.invokevirtual 37, 3) := by decide +kernel
theorem dX7_takeDigits_26 : decode cX7_takeDigits 26 = .ok (.invokestatic 50, 3) := by decide +kernel
theorem dX7_takeDigits_29 : decode cX7_takeDigits 29 = .ok (.ifCond .eq 47, 3) := by decide +kernel
theorem dX7_takeDigits_32 : decode cX7_takeDigits 32 = .ok (.aload_n 0, 1) := by decide +kernel
theorem dX7_takeDigits_33 : decode cX7_takeDigits 33 = .ok (.aload_n 0, 1) := by decide +kernel
theorem dX7_takeDigits_34 : decode cX7_takeDigits 34 = .ok (.getfield 18, 3) := by decide +kernel
theorem dX7_takeDigits_37 : decode cX7_takeDigits 37 = .ok (.bipush 10, 2) := by decide +kernel
theorem dX7_takeDigits_39 : decode cX7_takeDigits 39 = .ok (.imul, 1) := by decide +kernel
theorem dX7_takeDigits_40 : decode cX7_takeDigits 40 = .ok (.aload_n 0, 1) := by decide +kernel
theorem dX7_takeDigits_41 : decode cX7_takeDigits 41 = .ok (.getfield 27, 3) := by decide +kernel
theorem dX7_takeDigits_44 : decode cX7_takeDigits 44 = .ok (.aload_n 0, 1) := by decide +kernel
theorem dX7_takeDigits_45 : decode cX7_takeDigits 45 = .ok (.getfield 24, 3) := by decide +kernel
theorem dX7_takeDigits_48 : decode cX7_takeDigits 48 = .ok (.invokevirtual 37, 3) := by decide +kernel
theorem dX7_takeDigits_51 : decode cX7_takeDigits 51 = .ok (.iadd, 1) := by decide +kernel
theorem dX7_takeDigits_52 : decode cX7_takeDigits 52 = .ok (.bipush 48, 2) := by decide +kernel
theorem dX7_takeDigits_54 : decode cX7_takeDigits 54 = .ok (.isub, 1) := by decide +kernel
theorem dX7_takeDigits_55 : decode cX7_takeDigits 55 = .ok (.ldc 97, 2) := by decide +kernel
theorem dX7_takeDigits_57 : decode cX7_takeDigits 57 = .ok (.invokestatic 98, 3) := by decide +kernel
theorem dX7_takeDigits_60 : decode cX7_takeDigits 60 = .ok (.putfield 18, 3) := by decide +kernel
theorem dX7_takeDigits_63 : decode cX7_takeDigits 63 = .ok (.aload_n 0, 1) := by decide +kernel
theorem dX7_takeDigits_64 : decode cX7_takeDigits 64 = .ok (.dup, 1) := by decide +kernel
theorem dX7_takeDigits_65 : decode cX7_takeDigits 65 = .ok (.getfield 24, 3) := by decide +kernel
theorem dX7_takeDigits_68 : decode cX7_takeDigits 68 = .ok (.iconst 1, 1) := by decide +kernel
theorem dX7_takeDigits_69 : decode cX7_takeDigits 69 = .ok (.iadd, 1) := by decide +kernel
theorem dX7_takeDigits_70 : decode cX7_takeDigits 70 = .ok (.putfield 24, 3) := by decide +kernel
theorem dX7_takeDigits_73 : decode cX7_takeDigits 73 = .ok (.goto (-68), 3) := by decide +kernel
theorem dX7_takeDigits_76 : decode cX7_takeDigits 76 = .ok (.return_, 1) := by decide +kernel
theorem dX7_isBlank_0 : decode cX7_isBlank 0 = .ok (.iload_n 0, 1) := by decide +kernel
theorem dX7_isBlank_1 : decode cX7_isBlank 1 = .ok (.bipush 32, 2) := by decide +kernel
theorem dX7_isBlank_3 : decode cX7_isBlank 3 = .ok (.if_icmp .eq 9, 3) := by decide +kernel
theorem dX7_isBlank_6 : decode cX7_isBlank 6 = .ok (.iload_n 0, 1) := by decide +kernel
theorem dX7_isBlank_7 : decode cX7_isBlank 7 = .ok (.bipush 10, 2) := by decide +kernel
theorem dX7_isBlank_9 : decode cX7_isBlank 9 = .ok (.if_icmp .ne 7, 3) := by decide +kernel
theorem dX7_isBlank_12 : decode cX7_isBlank 12 = .ok (.iconst 1, 1) := by decide +kernel
theorem dX7_isBlank_13 : decode cX7_isBlank 13 = .ok (.goto 4, 3) := by decide +kernel
theorem dX7_isBlank_16 : decode cX7_isBlank 16 = .ok (.iconst 0, 1) := by decide +kernel
theorem dX7_isBlank_17 : decode cX7_isBlank 17 = .ok (.ireturn, 1) := by decide +kernel
theorem dX7_isLetter_0 : decode cX7_isLetter 0 = .ok (.iload_n 0, 1) := by decide +kernel
theorem dX7_isLetter_1 : decode cX7_isLetter 1 = .ok (.bipush 97, 2) := by decide +kernel
theorem dX7_isLetter_3 : decode cX7_isLetter 3 = .ok (.if_icmp .lt 13, 3) := by decide +kernel
theorem dX7_isLetter_6 : decode cX7_isLetter 6 = .ok (.iload_n 0, 1) := by decide +kernel
theorem dX7_isLetter_7 : decode cX7_isLetter 7 = .ok (.bipush 122, 2) := by decide +kernel
theorem dX7_isLetter_9 : decode cX7_isLetter 9 = .ok (.if_icmp .gt 7, 3) := by decide +kernel
theorem dX7_isLetter_12 : decode cX7_isLetter 12 = .ok (.iconst 1, 1) := by decide +kernel
theorem dX7_isLetter_13 : decode cX7_isLetter 13 = .ok (.goto 4, 3) := by decide +kernel
theorem dX7_isLetter_16 : decode cX7_isLetter 16 = .ok (.iconst 0, 1) := by decide +kernel
theorem dX7_isLetter_17 : decode cX7_isLetter 17 = .ok (.ireturn, 1) := by decide +kernel
theorem dX7_isDigit_0 : decode cX7_isDigit 0 = .ok (.iload_n 0, 1) := by decide +kernel
theorem dX7_isDigit_1 : decode cX7_isDigit 1 = .ok (.bipush 48, 2) := by decide +kernel
theorem dX7_isDigit_3 : decode cX7_isDigit 3 = .ok (.if_icmp .lt 13, 3) := by decide +kernel
theorem dX7_isDigit_6 : decode cX7_isDigit 6 = .ok (.iload_n 0, 1) := by decide +kernel
theorem dX7_isDigit_7 : decode cX7_isDigit 7 = .ok (.bipush 57, 2) := by decide +kernel
theorem dX7_isDigit_9 : decode cX7_isDigit 9 = .ok (.if_icmp .gt 7, 3) := by decide +kernel
theorem dX7_isDigit_12 : decode cX7_isDigit 12 = .ok (.iconst 1, 1) := by decide +kernel
theorem dX7_isDigit_13 : decode cX7_isDigit 13 = .ok (.goto 4, 3) := by decide +kernel
theorem dX7_isDigit_16 : decode cX7_isDigit 16 = .ok (.iconst 0, 1) := by decide +kernel
theorem dX7_isDigit_17 : decode cX7_isDigit 17 = .ok (.ireturn, 1) := by decide +kernel
theorem dX8_init_0 : decode cX8_init 0 = .ok (.aload_n 0, 1) := by decide +kernel
theorem dX8_init_1 : decode cX8_init 1 = .ok (.invokespecial 3, 3) := by decide +kernel
theorem dX8_init_4 : decode cX8_init 4 = .ok (.aload_n 0, 1) := by decide +kernel
theorem dX8_init_5 : decode cX8_init 5 = .ok (.iconst 0, 1) := by decide +kernel
theorem dX8_init_6 : decode cX8_init 6 = .ok (.putfield 9, 3) := by decide +kernel
theorem dX8_init_9 : decode cX8_init 9 = .ok (.aload_n 0, 1) := by decide +kernel
theorem dX8_init_10 : decode cX8_init 10 = .ok (.iconst 0, 1) := by decide +kernel
theorem dX8_init_11 : decode cX8_init 11 = .ok (.putfield 15, 3) := by decide +kernel
theorem dX8_init_14 : decode cX8_init 14 = .ok (.aload_n 0, 1) := by decide +kernel
theorem dX8_init_15 : decode cX8_init 15 = .ok (.iconst 0, 1) := by decide +kernel
theorem dX8_init_16 : decode cX8_init 16 = .ok (.putfield 18, 3) := by decide +kernel
theorem dX8_init_19 : decode cX8_init 19 = .ok (.aload_n 0, 1) := by decide +kernel
theorem dX8_init_20 : decode cX8_init 20 = .ok (.bipush 20, 2) := by decide +kernel
theorem dX8_init_22 : decode cX8_init 22 = .ok (.newarray .int, 2) := by decide +kernel
theorem dX8_init_24 : decode cX8_init 24 = .ok (.putfield 21, 3) := by decide +kernel
theorem dX8_init_27 : decode cX8_init 27 = .ok (.aload_n 0, 1) := by decide +kernel
theorem dX8_init_28 : decode cX8_init 28 = .ok (.bipush 20, 2) := by decide +kernel
theorem dX8_init_30 : decode cX8_init 30 = .ok (.newarray .int, 2) := by decide +kernel
theorem dX8_init_32 : decode cX8_init 32 = .ok (.putfield 25, 3) := by decide +kernel
theorem dX8_init_35 : decode cX8_init 35 = .ok (.aload_n 0, 1) := by decide +kernel
theorem dX8_init_36 : decode cX8_init 36 = .ok (.bipush 100, 2) := by decide +kernel
theorem dX8_init_38 : decode cX8_init 38 = .ok (.newarray .int, 2) := by decide +kernel
theorem dX8_init_40 : decode cX8_init 40 = .ok (.putfield 28, 3) := by decide +kernel
theorem dX8_init_43 : decode cX8_init 43 = .ok (.aload_n 0, 1) := by decide +kernel
theorem dX8_init_44 : decode cX8_init 44 = .ok (.bipush 100, 2) := by decide +kernel
theorem dX8_init_46 : decode cX8_init 46 = .ok (.newarray .int, 2) := by decide +kernel
theorem dX8_init_48 : decode cX8_init 48 = .ok (.putfield 31, 3) := by decide +kernel
theorem dX8_init_51 : decode cX8_init 51 = .ok (.aload_n 0, 1) := by decide +kernel
theorem dX8_init_52 : decode cX8_init 52 = .ok (.bipush 100, 2) := by decide +kernel
theorem dX8_init_54 : decode cX8_init 54 = .ok (.newarray .int, 2) := by decide +kernel
theorem dX8_init_56 : decode cX8_init 56 = .ok (.putfield 34, 3) := by decide +kernel
theorem dX8_init_59 : decode cX8_init 59 = .ok (.aload_n 0, 1) := by decide +kernel
theorem dX8_init_60 : decode cX8_init 60 = .ok (.bipush 100, 2) := by decide +kernel
theorem dX8_init_62 : decode cX8_init 62 = .ok (.newarray .int, 2) := by decide +kernel
theorem dX8_init_64 : decode cX8_init 64 = .ok (.putfield 37, 3) := by decide +kernel
theorem dX8_init_67 : decode cX8_init 67 = .ok (.aload_n 0, 1) := by decide +kernel
theorem dX8_init_68 : decode cX8_init 68 = .ok (.iconst 0, 1) := by decide +kernel
theorem dX8_init_69 : decode cX8_init 69 = .ok (.putfield 40, 3) := by decide +kernel
theorem dX8_init_72 : decode cX8_init 72 = .ok (.aload_n 0, 1) := by decide +kernel
theorem dX8_init_73 : decode cX8_init 73 = .ok (.sipush 200, 3) := by decide +kernel
theorem dX8_init_76 : decode cX8_init 76 = .ok (.newarray .int, 2) := by decide +kernel
theorem dX8_init_78 : decode cX8_init 78 = .ok (.putfield 43, 3) := by decide +kernel
theorem dX8_init_81 : decode cX8_init 81 = .ok (.aload_n 0, 1) := by decide +kernel
theorem dX8_init_82 : decode cX8_init 82 = .ok (.sipush 200, 3) := by decide +kernel
theorem dX8_init_85 : decode cX8_init 85 = .ok (.newarray .int, 2) := by decide +kernel
theorem dX8_init_87 : decode cX8_init 87 = .ok (.putfield 46, 3) := by decide +kernel
theorem dX8_init_90 : decode cX8_init 90 = .ok (.aload_n 0, 1) := by decide +kernel
theorem dX8_init_91 : decode cX8_init 91 = .ok (.sipush 201, 3) := by decide +kernel
theorem dX8_init_94 : decode cX8_init 94 = .ok (.newarray .int, 2) := by decide +kernel
theorem dX8_init_96 : decode cX8_init 96 = .ok (.putfield 49, 3) := by decide +kernel
theorem dX8_init_99 : decode cX8_init 99 = .ok (.aload_n 0, 1) := by decide +kernel
theorem dX8_init_100 : decode cX8_init 100 = .ok (.sipush 201, 3) := by decide +kernel
theorem dX8_init_103 : decode cX8_init 103 = .ok (.newarray .int, 2) := by decide +kernel
theorem dX8_init_105 : decode cX8_init 105 = .ok (.putfield 52, 3) := by decide +kernel
theorem dX8_init_108 : decode cX8_init 108 = .ok (.aload_n 0, 1) := by decide +kernel
theorem dX8_init_109 : decode cX8_init 109 = .ok (.bipush 100, 2) := by decide +kernel
theorem dX8_init_111 : decode cX8_init 111 = .ok (.newarray .int, 2) := by decide +kernel
theorem dX8_init_113 : decode cX8_init 113 = .ok (.putfield 55, 3) := by decide +kernel
theorem dX8_init_116 : decode cX8_init 116 = .ok (.aload_n 0, 1) := by decide +kernel
theorem dX8_init_117 : decode cX8_init 117 = .ok (.bipush 100, 2) := by decide +kernel
theorem dX8_init_119 : decode cX8_init 119 = .ok (.newarray .int, 2) := by decide +kernel
theorem dX8_init_121 : decode cX8_init 121 = .ok (.putfield 58, 3) := by decide +kernel
theorem dX8_init_124 : decode cX8_init 124 = .ok (.aload_n 0, 1) := by decide +kernel
theorem dX8_init_125 : decode cX8_init 125 = .ok (.aload_n 1, 1) := by decide +kernel
theorem dX8_init_126 : decode cX8_init 126 = .ok (.putfield 61, 3) := by decide +kernel
theorem dX8_init_129 : decode cX8_init 129 = .ok (.return_, 1) := by decide +kernel
theorem dX8_perform_0 : decode cX8_perform 0 = .ok (.aload_n 0, 1) := by decide +kernel
theorem dX8_perform_1 : decode cX8_perform 1 = .ok (.getfield 61, 3) := by decide +kernel
theorem dX8_perform_4 : decode cX8_perform 4 = .ok (.getfield 65, 3) := by decide +kernel
theorem dX8_perform_7 : decode cX8_perform 7 = .ok (.aload_n 0, 1) := by decide +kernel
theorem dX8_perform_8 : decode cX8_perform 8 = .ok (.getfield 21, 3) := by decide +kernel
theorem dX8_perform_11 : decode cX8_perform 11 = .ok (.invokestatic 70, 3) := by decide +kernel
theorem dX8_perform_14 : decode cX8_perform 14 = .ok (.aload_n 0, 1) := by decide +kernel
theorem dX8_perform_15 : decode cX8_perform 15 = .ok (.getfield 61, 3) := by decide +kernel
theorem dX8_perform_18 : decode cX8_perform 18 = .ok (.getfield 74, 3) := by decide +kernel
theorem dX8_perform_21 : decode cX8_perform 21 = .ok (.aload_n 0, 1) := by decide +kernel
theorem dX8_perform_22 : decode cX8_perform 22 = .ok (.getfield 25, 3) := by decide +kernel
theorem dX8_perform_25 : decode cX8_perform 25 = .ok (.invokestatic 70, 3) := by decide +kernel
theorem dX8_perform_28 : decode cX8_perform 28 = .ok (.aload_n 0, 1) := by decide +kernel
theorem dX8_perform_29 : decode cX8_perform 29 = .ok (.iconst 0, 1) := by decide +kernel
theorem dX8_perform_30 : decode cX8_perform 30 = .ok (.putfield 18, 3) := by decide +kernel
theorem dX8_perform_33 : decode cX8_perform 33 = .ok (.aload_n 0, 1) := by decide +kernel
theorem dX8_perform_34 : decode cX8_perform 34 = .ok (.iconst 0, 1) := by decide +kernel
theorem dX8_perform_35 : decode cX8_perform 35 = .ok (.putfield 9, 3) := by decide +kernel
theorem dX8_perform_38 : decode cX8_perform 38 = .ok (.aload_n 0, 1) := by decide +kernel
theorem dX8_perform_39 : decode cX8_perform 39 = .ok (.iconst 0, 1) := by decide +kernel
theorem dX8_perform_40 : decode cX8_perform 40 = .ok (.putfield 40, 3) := by decide +kernel
theorem dX8_perform_43 : decode cX8_perform 43 = .ok (.aload_n 0, 1) := by decide +kernel
theorem dX8_perform_44 : decode cX8_perform 44 = .ok (.iconst 2, 1) := by decide +kernel
theorem dX8_perform_45 : decode cX8_perform 45 = .ok (.putfield 15, 3) := by decide +kernel
theorem dX8_perform_48 : decode cX8_perform 48 = .ok (.aload_n 0, 1) := by decide +kernel
theorem dX8_perform_49 : decode cX8_perform 49 = .ok (.getfield 61, 3) := by decide +kernel
theorem dX8_perform_52 : decode cX8_perform 52 = .ok (.getfield 77, 3) := by decide +kernel
theorem dX8_perform_55 : decode cX8_perform 55 = .ok (.istore_n 1, 1) := by decide +kernel
theorem dX8_perform_56 : decode cX8_perform 56 = .ok (.iconst 0, 1) := by decide +kernel
theorem dX8_perform_57 : decode cX8_perform 57 = .ok (.istore_n 2, 1) := by decide +kernel
theorem dX8_perform_58 : decode cX8_perform 58 = .ok (.iload_n 2, 1) := by decide +kernel
theorem dX8_perform_59 : decode cX8_perform 59 = .ok (.bipush 100, 2) := by decide +kernel
theorem dX8_perform_61 : decode cX8_perform 61 = .ok (.if_icmp .ge 27, 3) := by decide +kernel
theorem dX8_perform_64 : decode cX8_perform 64 = .ok (.aload_n 0, 1) := by decide +kernel
theorem dX8_perform_65 : decode cX8_perform 65 = .ok (.getfield 61, 3) := by decide +kernel
theorem dX8_perform_68 : decode cX8_perform 68 = .ok (.iload_n 1, 1) := by decide +kernel
theorem dX8_perform_69 : decode cX8_perform 69 = .ok (.invokevirtual 80, 3) := by decide +kernel
theorem dX8_perform_72 : decode cX8_perform 72 = .ok (.ifCond .eq 16, 3) := by decide +kernel
theorem dX8_perform_75 : decode cX8_perform 75 = .ok (.aload_n 0, 1) := by decide +kernel
theorem dX8_perform_76 : decode cX8_perform 76 = .ok (.iload_n 1, 1) := by decide +kernel
theorem dX8_perform_77 : decode cX8_perform 77 = .ok (.iload_n 2, 1) := by decide +kernel
theorem dX8_perform_78 : decode cX8_perform 78 = .ok (.invokevirtual 84, 3) := by decide +kernel
theorem dX8_perform_81 : decode cX8_perform 81 = .ok (.istore_n 1, 1) := by decide +kernel
theorem dX8_perform_82 : decode cX8_perform 82 = .ok (.iinc 2 1, 3) := by decide +kernel
theorem dX8_perform_85 : decode cX8_perform 85 = .ok (.goto (-27), 3) := by decide +kernel
theorem dX8_perform_88 : decode cX8_perform 88 = .ok (.aload_n 0, 1) := by decide +kernel
theorem dX8_perform_89 : decode cX8_perform 89 = .ok (.invokevirtual 88, 3) := by decide +kernel
theorem dX8_perform_92 : decode cX8_perform 92 = .ok (.return_, 1) := by decide +kernel
theorem dX8_doStep_0 : decode cX8_doStep 0 = .ok (.aload_n 0, 1) := by decide +kernel
theorem dX8_doStep_1 : decode cX8_doStep 1 = .ok (.getfield 61, 3) := by decide +kernel
theorem dX8_doStep_4 : decode cX8_doStep 4 = .ok (.getfield 91, 3) := by decide +kernel
theorem dX8_doStep_7 : decode cX8_doStep 7 = .ok (.iload_n 1, 1) := by decide +kernel
theorem dX8_doStep_8 : decode cX8_doStep 8 = .ok (.iaload, 1) := by decide +kernel
theorem dX8_doStep_9 : decode cX8_doStep 9 = .ok (.istore_n 3, 1) := by decide +kernel
theorem dX8_doStep_10 : decode cX8_doStep 10 = .ok (.iload_n 3, 1) := by decide +kernel
theorem dX8_doStep_11 : decode cX8_doStep 11 = .ok (.iconst 5, 1) := by decide +kernel
theorem dX8_doStep_12 : decode cX8_doStep 12 = .ok (.if_icmp .eq 9, 3) := by decide +kernel
theorem dX8_doStep_15 : decode cX8_doStep 15 = .ok (.iload_n 3, 1) := by decide +kernel
theorem dX8_doStep_16 : decode cX8_doStep 16 = .ok (.bipush 7, 2) := by decide +kernel
theorem dX8_doStep_18 : decode cX8_doStep 18 = .ok (.if_icmp .ne 7, 3) := by decide +kernel
theorem dX8_doStep_21 : decode cX8_doStep 21 = .ok (.iconst (-1), 1) := by decide +kernel
theorem dX8_doStep_22 : decode cX8_doStep 22 = .ok (.goto 9, 3) := by decide +kernel
theorem dX8_doStep_25 : decode cX8_doStep 25 = .ok (.aload_n 0, 1) := by decide +kernel
theorem dX8_doStep_26 : decode cX8_doStep 26 = .ok (.getfield 25, 3) := by decide +kernel
theorem dX8_doStep_29 : decode cX8_doStep 29 = .ok (.iload_n 1, 1) := by decide +kernel
theorem dX8_doStep_30 : decode cX8_doStep 30 = .ok (.iaload, 1) := by decide +kernel
theorem dX8_doStep_31 : decode cX8_doStep 31 = .ok (.istore 4, 2) := by decide +kernel
theorem dX8_doStep_33 : decode cX8_doStep 33 = .ok (.aload_n 0, 1) := by decide +kernel
theorem dX8_doStep_34 : decode cX8_doStep 34 = .ok (.getfield 28, 3) := by decide +kernel
theorem dX8_doStep_37 : decode cX8_doStep 37 = .ok (.iload_n 2, 1) := by decide +kernel
theorem dX8_doStep_38 : decode cX8_doStep 38 = .ok (.iload_n 1, 1) := by decide +kernel
theorem dX8_doStep_39 : decode cX8_doStep 39 = .ok (.iastore, 1) := by decide +kernel
theorem dX8_doStep_40 : decode cX8_doStep 40 = .ok (.aload_n 0, 1) := by decide +kernel
theorem dX8_doStep_41 : decode cX8_doStep 41 = .ok (.getfield 31, 3) := by decide +kernel
theorem dX8_doStep_44 : decode cX8_doStep 44 = .ok (.iload_n 2, 1) := by decide +kernel
theorem dX8_doStep_45 : decode cX8_doStep 45 = .ok (.iload 4, 2) := by decide +kernel
theorem dX8_doStep_47 : decode cX8_doStep 47 = .ok (.iastore, 1) := by decide +kernel
theorem dX8_doStep_48 : decode cX8_doStep 48 = .ok (.aload_n 0, 1) := by decide +kernel
theorem dX8_doStep_49 : decode cX8_doStep 49 = .ok (.getfield 37, 3) := by decide +kernel
theorem dX8_doStep_52 : decode cX8_doStep 52 = .ok (.iload_n 2, 1) := by decide +kernel
theorem dX8_doStep_53 : decode cX8_doStep 53 = .ok (.aload_n 0, 1) := by decide +kernel
theorem dX8_doStep_54 : decode cX8_doStep 54 = .ok (.getfield 40, 3) := by decide +kernel
theorem dX8_doStep_57 : decode cX8_doStep 57 = .ok (.iastore, 1) := by decide +kernel
theorem dX8_doStep_58 : decode cX8_doStep 58 = .ok (.aload_n 0, 1) := by decide +kernel
theorem dX8_doStep_59 : decode cX8_doStep 59 = .ok (.iload_n 1, 1) := by decide +kernel
theorem dX8_doStep_60 : decode cX8_doStep 60 = .ok (.iconst 0, 1) := by decide +kernel
theorem dX8_doStep_61 : decode cX8_doStep 61 = .ok (.invokevirtual 94, 3) := by decide +kernel
theorem dX8_doStep_64 : decode cX8_doStep 64 = .ok (.aload_n 0, 1) := by decide +kernel
theorem dX8_doStep_65 : decode cX8_doStep 65 = .ok (.getfield 61, 3) := by decide +kernel
theorem dX8_doStep_68 : decode cX8_doStep 68 = .ok (.iload 4, 2) := by decide +kernel
theorem dX8_doStep_70 : decode cX8_doStep 70 = .ok (.invokevirtual 98, 3) := by decide +kernel
theorem dX8_doStep_73 : decode cX8_doStep 73 = .ok (.ifCond .eq 27, 3) := by decide +kernel
theorem dX8_doStep_76 : decode cX8_doStep 76 = .ok (.aload_n 0, 1) := by decide +kernel
theorem dX8_doStep_77 : decode cX8_doStep 77 = .ok (.iload 4, 2) := by decide +kernel
theorem dX8_doStep_79 : decode cX8_doStep 79 = .ok (.iload_n 3, 1) := by decide +kernel
theorem dX8_doStep_80 : decode cX8_doStep 80 = .ok (.iconst 3, 1) := by decide +kernel
theorem dX8_doStep_81 : decode cX8_doStep 81 = .ok (.if_icmp .ne 7, 3) := by decide +kernel
theorem dX8_doStep_84 : decode cX8_doStep 84 = .ok (.iconst 2, 1) := by decide +kernel
theorem dX8_doStep_85 : decode cX8_doStep 85 = .ok (.goto 4, 3) := by decide +kernel
theorem dX8_doStep_88 : decode cX8_doStep 88 = .ok (.iconst 1, 1) := by decide +kernel
theorem dX8_doStep_89 : decode cX8_doStep 89 = .ok (.invokevirtual 94, 3) := by decide +kernel
theorem dX8_doStep_92 : decode cX8_doStep 92 = .ok (.aload_n 0, 1) := by decide +kernel
theorem dX8_doStep_93 : decode cX8_doStep 93 = .ok (.iload_n 1, 1) := by decide +kernel
theorem dX8_doStep_94 : decode cX8_doStep 94 = .ok (.iload_n 3, 1) := by decide +kernel
theorem dX8_doStep_95 : decode cX8_doStep 95 = .ok (.iload 4, 2) := by decide +kernel
theorem dX8_doStep_97 : decode cX8_doStep 97 = .ok (.invokevirtual 101, 3) := by decide +kernel
theorem dX8_doStep_100 : decode cX8_doStep 100 = .ok (.aload_n 0, 1) := by decide +kernel
theorem dX8_doStep_101 : decode cX8_doStep 101 = .ok (.getfield 34, 3) := by decide +kernel
theorem dX8_doStep_104 : decode cX8_doStep 104 = .ok (.iload_n 2, 1) := by decide +kernel
theorem dX8_doStep_105 : decode cX8_doStep 105 = .ok (.aload_n 0, 1) := by decide +kernel
theorem dX8_doStep_106 : decode cX8_doStep 106 = .ok (.getfield 18, 3) := by decide +kernel
theorem dX8_doStep_109 : decode cX8_doStep 109 = .ok (.iastore, 1) := by decide +kernel
theorem dX8_doStep_110 : decode cX8_doStep 110 = .ok (.aload_n 0, 1) := by decide +kernel
theorem dX8_doStep_111 : decode cX8_doStep 111 = .ok (.iload_n 2, 1) := by decide +kernel
theorem dX8_doStep_112 : decode cX8_doStep 112 = .ok (.iconst 1, 1) := by decide +kernel
theorem dX8_doStep_113 : decode cX8_doStep 113 = .ok (.iadd, 1) := by decide +kernel
theorem dX8_doStep_114 : decode cX8_doStep 114 = .ok (.putfield 9, 3) := by decide +kernel
theorem dX8_doStep_117 : decode cX8_doStep 117 = .ok (.iload_n 3, 1) := by decide +kernel
theorem dX8_doStep_118 : decode cX8_doStep 118 = .ok (.bipush 7, 2) := by decide +kernel
theorem dX8_doStep_120 : decode cX8_doStep 120 = .ok (.if_icmp .ne 10, 3) := by decide +kernel
theorem dX8_doStep_123 : decode cX8_doStep 123 = .ok (.aload_n 0, 1) := by decide +kernel
theorem dX8_doStep_124 : decode cX8_doStep 124 = .ok (.iconst 1, 1) := by decide +kernel
theorem dX8_doStep_125 : decode cX8_doStep 125 = .ok (.putfield 15, 3) := by decide +kernel
theorem dX8_doStep_128 : decode cX8_doStep 128 = .ok (.iconst (-1), 1) := by decide +kernel
theorem dX8_doStep_129 : decode cX8_doStep 129 = .ok (.ireturn, 1) := by decide +kernel
theorem dX8_doStep_130 : decode cX8_doStep 130 = .ok (.iload_n 3, 1) := by decide +kernel
theorem dX8_doStep_131 : decode cX8_doStep 131 = .ok (.iconst 5, 1) := by decide +kernel
theorem dX8_doStep_132 : decode cX8_doStep 132 = .ok (.if_icmp .ne 22, 3) := by decide +kernel
theorem dX8_doStep_135 : decode cX8_doStep 135 = .ok (.aload_n 0, 1) := by decide +kernel
theorem dX8_doStep_136 : decode cX8_doStep 136 = .ok (.getfield 18, 3) := by decide +kernel
theorem dX8_doStep_139 : decode cX8_doStep 139 = .ok (.ifCond .ge 15, 3) := by decide +kernel
theorem dX8_doStep_142 : decode cX8_doStep 142 = .ok (.aload_n 0, 1) := by decide +kernel
theorem dX8_doStep_143 : decode cX8_doStep 143 = .ok (.getfield 61, 3) := by decide +kernel
theorem dX8_doStep_146 : decode cX8_doStep 146 = .ok (.getfield 74, 3) := by decide +kernel
theorem dX8_doStep_149 : decode cX8_doStep 149 = .ok (.iload_n 1, 1) := by decide +kernel
theorem dX8_doStep_150 : decode cX8_doStep 150 = .ok (.iaload, 1) := by decide +kernel
theorem dX8_doStep_151 : decode cX8_doStep 151 = .ok (.goto 12, 3) := by decide +kernel
theorem dX8_doStep_154 : decode cX8_doStep 154 = .ok (.aload_n 0, 1) := by decide +kernel
theorem dX8_doStep_155 : decode cX8_doStep 155 = .ok (.getfield 61, 3) := by decide +kernel
theorem dX8_doStep_158 : decode cX8_doStep 158 = .ok (.getfield 105, 3) := by decide +kernel
theorem dX8_doStep_161 : decode cX8_doStep 161 = .ok (.iload_n 1, 1) := by decide +kernel
theorem dX8_doStep_162 : decode cX8_doStep 162 = .ok (.iaload, 1) := by decide +kernel
theorem dX8_doStep_163 : decode cX8_doStep 163 = .ok (.ireturn, 1) := by decide +kernel
theorem dX8_addReading_0 : decode cX8_addReading 0 = .ok (.aload_n 0, 1) := by decide +kernel
theorem dX8_addReading_1 : decode cX8_addReading 1 = .ok (.getfield 40, 3) := by decide +kernel
theorem dX8_addReading_4 : decode cX8_addReading 4 = .ok (.sipush 200, 3) := by decide +kernel
theorem dX8_addReading_7 : decode cX8_addReading 7 = .ok (.if_icmp .ge 33, 3) := by decide +kernel
theorem dX8_addReading_10 : decode cX8_addReading 10 = .ok (.aload_n 0, 1) := by decide +kernel
theorem dX8_addReading_11 : decode cX8_addReading 11 = .ok (.getfield 43, 3) := by decide +kernel
theorem dX8_addReading_14 : decode cX8_addReading 14 = .ok (.aload_n 0, 1) := by decide +kernel
theorem dX8_addReading_15 : decode cX8_addReading 15 = .ok (.getfield 40, 3) := by decide +kernel
theorem dX8_addReading_18 : decode cX8_addReading 18 = .ok (.iload_n 1, 1) := by decide +kernel
theorem dX8_addReading_19 : decode cX8_addReading 19 = .ok (.iastore, 1) := by decide +kernel
theorem dX8_addReading_20 : decode cX8_addReading 20 = .ok (.aload_n 0, 1) := by decide +kernel
theorem dX8_addReading_21 : decode cX8_addReading 21 = .ok (.getfield 46, 3) := by decide +kernel
theorem dX8_addReading_24 : decode cX8_addReading 24 = .ok (.aload_n 0, 1) := by decide +kernel
theorem dX8_addReading_25 : decode cX8_addReading 25 = .ok (.getfield 40, 3) := by decide +kernel
theorem dX8_addReading_28 : decode cX8_addReading 28 = .ok (.iload_n 2, 1) := by decide +kernel
theorem dX8_addReading_29 : decode cX8_addReading 29 = .ok (.iastore, 1) := by decide +kernel
theorem dX8_addReading_30 : decode cX8_addReading 30 = .ok (.aload_n 0, 1) := by decide +kernel
theorem dX8_addReading_31 : decode cX8_addReading 31 = .ok (.dup, 1) := by decide +kernel
theorem dX8_addReading_32 : decode cX8_addReading 32 = .ok (.getfield 40, 3) := by decide +kernel
theorem dX8_addReading_35 : decode cX8_addReading 35 = .ok (.iconst 1, 1) := by decide +kernel
theorem dX8_addReading_36 : decode cX8_addReading 36 = .ok (.iadd, 1) := by decide +kernel
theorem dX8_addReading_37 : decode cX8_addReading 37 = .ok (.putfield 40, 3) := by decide +kernel
theorem dX8_addReading_40 : decode cX8_addReading 40 = .ok (.return_, 1) := by decide +kernel
theorem dX8_carryOut_0 : decode cX8_carryOut 0 = .ok (.iload_n 2, 1) := by decide +kernel
theorem dX8_carryOut_1 : decode cX8_carryOut 1 = .ok (.tableswitch 163 0 6 #[43, 56, 77, 98, 119, 163, 132], 43) := by decide +kernel
theorem dX8_carryOut_44 : decode cX8_carryOut 44 = .ok (.aload_n 0, 1) := by decide +kernel
theorem dX8_carryOut_45 : decode cX8_carryOut 45 = .ok (.aload_n 0, 1) := by decide +kernel
theorem dX8_carryOut_46 : decode cX8_carryOut 46 = .ok (.getfield 21, 3) := by decide +kernel
theorem dX8_carryOut_49 : decode cX8_carryOut 49 = .ok (.iload_n 3, 1) := by decide +kernel
theorem dX8_carryOut_50 : decode cX8_carryOut 50 = .ok (.iaload, 1) := by decide +kernel
theorem dX8_carryOut_51 : decode cX8_carryOut 51 = .ok (.putfield 18, 3) := by decide +kernel
theorem dX8_carryOut_54 : decode cX8_carryOut 54 = .ok (.goto 110, 3) := by decide +kernel
theorem dX8_carryOut_57 : decode cX8_carryOut 57 = .ok (.aload_n 0, 1) := by decide +kernel
theorem dX8_carryOut_58 : decode cX8_carryOut 58 = .ok (.aload_n 0, 1) := by decide +kernel
theorem dX8_carryOut_59 : decode cX8_carryOut 59 = .ok (.getfield 18, 3) := by decide +kernel
theorem dX8_carryOut_62 : decode cX8_carryOut 62 = .ok (.aload_n 0, 1) := by decide +kernel
theorem dX8_carryOut_63 : decode cX8_carryOut 63 = .ok (.getfield 21, 3) := by decide +kernel
theorem dX8_carryOut_66 : decode cX8_carryOut 66 = .ok (.iload_n 3, 1) := by decide +kernel
theorem dX8_carryOut_67 : decode cX8_carryOut 67 = .ok (.iaload, 1) := by decide +kernel
theorem dX8_carryOut_68 : decode cX8_carryOut 68 = .ok (.iadd, 1) := by decide +kernel
theorem dX8_carryOut_69 : decode cX8_carryOut 69 = .ok (.invokestatic 108, 3) := by decide +kernel
theorem dX8_carryOut_72 : decode cX8_carryOut 72 = .ok (.putfield 18, 3) := by decide +kernel
theorem dX8_carryOut_75 : decode cX8_carryOut 75 = .ok (.goto 89, 3) := by decide +kernel
theorem dX8_carryOut_78 : decode cX8_carryOut 78 = .ok (.aload_n 0, 1) := by decide +kernel
theorem dX8_carryOut_79 : decode cX8_carryOut 79 = .ok (.aload_n 0, 1) := by decide +kernel
theorem dX8_carryOut_80 : decode cX8_carryOut 80 = .ok (.getfield 18, 3) := by decide +kernel
theorem dX8_carryOut_83 : decode cX8_carryOut 83 = .ok (.aload_n 0, 1) := by decide +kernel
theorem dX8_carryOut_84 : decode cX8_carryOut 84 = .ok (.getfield 21, 3) := by decide +kernel
theorem dX8_carryOut_87 : decode cX8_carryOut 87 = .ok (.iload_n 3, 1) := by decide +kernel
theorem dX8_carryOut_88 : decode cX8_carryOut 88 = .ok (.iaload, 1) := by decide +kernel
theorem dX8_carryOut_89 : decode cX8_carryOut 89 = .ok (.isub, 1) := by decide +kernel
theorem dX8_carryOut_90 : decode cX8_carryOut 90 = .ok (.invokestatic 108, 3) := by decide +kernel
theorem dX8_carryOut_93 : decode cX8_carryOut 93 = .ok (.putfield 18, 3) := by decide +kernel
theorem dX8_carryOut_96 : decode cX8_carryOut 96 = .ok (.goto 68, 3) := by decide +kernel
theorem dX8_carryOut_99 : decode cX8_carryOut 99 = .ok (.aload_n 0, 1) := by decide +kernel
theorem dX8_carryOut_100 : decode cX8_carryOut 100 = .ok (.aload_n 0, 1) := by decide +kernel
theorem dX8_carryOut_101 : decode cX8_carryOut 101 = .ok (.getfield 18, 3) := by decide +kernel
theorem dX8_carryOut_104 : decode cX8_carryOut 104 = .ok (.aload_n 0, 1) := by decide +kernel
theorem dX8_carryOut_105 : decode cX8_carryOut 105 = .ok (.getfield 21, 3) := by decide +kernel
theorem dX8_carryOut_108 : decode cX8_carryOut 108 = .ok (.iload_n 3, 1) := by decide +kernel
theorem dX8_carryOut_109 : decode cX8_carryOut 109 = .ok (.iaload, 1) := by decide +kernel
theorem dX8_carryOut_110 : decode cX8_carryOut 110 = .ok (.imul, 1) := by decide +kernel
theorem dX8_carryOut_111 : decode cX8_carryOut 111 = .ok (.invokestatic 108, 3) := by decide +kernel
theorem dX8_carryOut_114 : decode cX8_carryOut 114 = .ok (.putfield 18, 3) := by decide +kernel
theorem dX8_carryOut_117 : decode cX8_carryOut 117 = .ok (.goto 47, 3) := by decide +kernel
theorem dX8_carryOut_120 : decode cX8_carryOut 120 = .ok (.aload_n 0, 1) := by decide +kernel
theorem dX8_carryOut_121 : decode cX8_carryOut 121 = .ok (.getfield 21, 3) := by decide +kernel
theorem dX8_carryOut_124 : decode cX8_carryOut 124 = .ok (.iload_n 3, 1) := by decide +kernel
theorem dX8_carryOut_125 : decode cX8_carryOut 125 = .ok (.aload_n 0, 1) := by decide +kernel
theorem dX8_carryOut_126 : decode cX8_carryOut 126 = .ok (.getfield 18, 3) := by decide +kernel
theorem dX8_carryOut_129 : decode cX8_carryOut 129 = .ok (.iastore, 1) := by decide +kernel
theorem dX8_carryOut_130 : decode cX8_carryOut 130 = .ok (.goto 34, 3) := by decide +kernel
theorem dX8_carryOut_133 : decode cX8_carryOut 133 = .ok (.aload_n 0, 1) := by decide +kernel
theorem dX8_carryOut_134 : decode cX8_carryOut 134 = .ok (.getfield 25, 3) := by decide +kernel
theorem dX8_carryOut_137 : decode cX8_carryOut 137 = .ok (.iload_n 3, 1) := by decide +kernel
theorem dX8_carryOut_138 : decode cX8_carryOut 138 = .ok (.aload_n 0, 1) := by decide +kernel
theorem dX8_carryOut_139 : decode cX8_carryOut 139 = .ok (.getfield 61, 3) := by decide +kernel
theorem dX8_carryOut_142 : decode cX8_carryOut 142 = .ok (.aload_n 0, 1) := by decide +kernel
theorem dX8_carryOut_143 : decode cX8_carryOut 143 = .ok (.getfield 25, 3) := by decide +kernel
theorem dX8_carryOut_146 : decode cX8_carryOut 146 = .ok (.iload_n 3, 1) := by decide +kernel
theorem dX8_carryOut_147 : decode cX8_carryOut 147 = .ok (.iaload, 1) := by decide +kernel
theorem dX8_carryOut_148 : decode cX8_carryOut 148 = .ok (.aload_n 0, 1) := by decide +kernel
theorem dX8_carryOut_149 : decode cX8_carryOut 149 = .ok (.getfield 61, 3) := by decide +kernel
theorem dX8_carryOut_152 : decode cX8_carryOut 152 = .ok (.getfield 112, 3) := by decide +kernel
theorem dX8_carryOut_155 : decode cX8_carryOut 155 = .ok (.iload_n 1, 1) := by decide +kernel
theorem dX8_carryOut_156 : decode cX8_carryOut 156 = .ok (.iaload, 1) := by decide +kernel
theorem dX8_carryOut_157 : decode cX8_carryOut 157 = .ok (.invokevirtual 115, 3) := by decide +kernel
theorem dX8_carryOut_160 : decode cX8_carryOut 160 = .ok (.iastore, 1) := by decide +kernel
theorem dX8_carryOut_161 : decode cX8_carryOut 161 = .ok (.goto 3, 3) := by decide +kernel
theorem dX8_carryOut_164 : decode cX8_carryOut 164 = .ok (.return_, 1) := by decide +kernel
theorem dX8_within_0 : decode cX8_within 0 = .ok (.iload_n 0, 1) := by decide +kernel
theorem dX8_within_1 : decode cX8_within 1 = .ok (.sipush (-10000), 3) := by decide +kernel
theorem dX8_within_4 : decode cX8_within 4 = .ok (.isub, 1) := by decide +kernel
theorem dX8_within_5 : decode cX8_within 5 = .ok (.sipush 20000, 3) := by decide +kernel
theorem dX8_within_8 : decode cX8_within 8 = .ok (.invokestatic 118, 3) := by decide +kernel
theorem dX8_within_11 : decode cX8_within 11 = .ok (.sipush (-10000), 3) := by decide +kernel
theorem dX8_within_14 : decode cX8_within 14 = .ok (.iadd, 1) := by decide +kernel
theorem dX8_within_15 : decode cX8_within 15 = .ok (.ireturn, 1) := by decide +kernel
theorem dX8_markPasses_0 : decode cX8_markPasses 0 = .ok (.iconst 0, 1) := by decide +kernel
theorem dX8_markPasses_1 : decode cX8_markPasses 1 = .ok (.istore_n 1, 1) := by decide +kernel
theorem dX8_markPasses_2 : decode cX8_markPasses 2 = .ok (.iload_n 1, 1) := by decide +kernel
theorem dX8_markPasses_3 : decode cX8_markPasses 3 = .ok (.sipush 200, 3) := by decide +kernel
theorem dX8_markPasses_6 : decode cX8_markPasses 6 = .ok (.if_icmp .gt 16, 3) := by decide +kernel
theorem dX8_markPasses_9 : decode cX8_markPasses 9 = .ok (.aload_n 0, 1) := by decide +kernel
theorem dX8_markPasses_10 : decode cX8_markPasses 10 = .ok (.getfield 49, 3) := by decide +kernel
theorem dX8_markPasses_13 : decode cX8_markPasses 13 = .ok (.iload_n 1, 1) := by decide +kernel
theorem dX8_markPasses_14 : decode cX8_markPasses 14 = .ok (.iconst 0, 1) := by decide +kernel
theorem dX8_markPasses_15 : decode cX8_markPasses 15 = .ok (.iastore, 1) := by decide +kernel
theorem dX8_markPasses_16 : decode cX8_markPasses 16 = .ok (.iinc 1 1, 3) := by decide +kernel
theorem dX8_markPasses_19 : decode cX8_markPasses 19 = .ok (.goto (-17), 3) := by decide +kernel
theorem dX8_markPasses_22 : decode cX8_markPasses 22 = .ok (.iconst 0, 1) := by decide +kernel
theorem dX8_markPasses_23 : decode cX8_markPasses 23 = .ok (.istore_n 1, 1) := by decide +kernel
theorem dX8_markPasses_24 : decode cX8_markPasses 24 = .ok (.iload_n 1, 1) := by decide +kernel
theorem dX8_markPasses_25 : decode cX8_markPasses 25 = .ok (.bipush 100, 2) := by decide +kernel
theorem dX8_markPasses_27 : decode cX8_markPasses 27 = .ok (.if_icmp .ge 16, 3) := by decide +kernel
theorem dX8_markPasses_30 : decode cX8_markPasses 30 = .ok (.aload_n 0, 1) := by decide +kernel
theorem dX8_markPasses_31 : decode cX8_markPasses 31 = .ok (.getfield 55, 3) := by decide +kernel
theorem dX8_markPasses_34 : decode cX8_markPasses 34 = .ok (.iload_n 1, 1) := by decide +kernel
theorem dX8_markPasses_35 : decode cX8_markPasses 35 = .ok (.iconst 0, 1) := by decide +kernel
theorem dX8_markPasses_36 : decode cX8_markPasses 36 = .ok (.iastore, 1) := by decide +kernel
theorem dX8_markPasses_37 : decode cX8_markPasses 37 = .ok (.iinc 1 1, 3) := by decide +kernel
theorem dX8_markPasses_40 : decode cX8_markPasses 40 = .ok (.goto (-16), 3) := by decide +kernel
theorem dX8_markPasses_43 : decode cX8_markPasses 43 = .ok (.iconst 1, 1) := by decide +kernel
theorem dX8_markPasses_44 : decode cX8_markPasses 44 = .ok (.istore_n 1, 1) := by decide +kernel
theorem dX8_markPasses_45 : decode cX8_markPasses 45 = .ok (.iconst 3, 1) := by decide +kernel
theorem dX8_markPasses_46 : decode cX8_markPasses 46 = .ok (.iload_n 1, 1) := by decide +kernel
theorem dX8_markPasses_47 : decode cX8_markPasses 47 = .ok (.imul, 1) := by decide +kernel
theorem dX8_markPasses_48 : decode cX8_markPasses 48 = .ok (.aload_n 0, 1) := by decide +kernel
theorem dX8_markPasses_49 : decode cX8_markPasses 49 = .ok (.getfield 9, 3) := by decide +kernel
theorem dX8_markPasses_52 : decode cX8_markPasses 52 = .ok (.if_icmp .gt 14, 3) := by decide +kernel
theorem dX8_markPasses_55 : decode cX8_markPasses 55 = .ok (.aload_n 0, 1) := by decide +kernel
theorem dX8_markPasses_56 : decode cX8_markPasses 56 = .ok (.iload_n 1, 1) := by decide +kernel
theorem dX8_markPasses_57 : decode cX8_markPasses 57 = .ok (.invokevirtual 123, 3) := by decide +kernel
theorem dX8_markPasses_60 : decode cX8_markPasses 60 = .ok (.iinc 1 1, 3) := by decide +kernel
theorem dX8_markPasses_63 : decode cX8_markPasses 63 = .ok (.goto (-18), 3) := by decide +kernel
theorem dX8_markPasses_66 : decode cX8_markPasses 66 = .ok (.iconst 0, 1) := by decide +kernel
theorem dX8_markPasses_67 : decode cX8_markPasses 67 = .ok (.istore_n 1, 1) := by decide +kernel
theorem dX8_markPasses_68 : decode cX8_markPasses 68 = .ok (.iconst 0, 1) := by decide +kernel
theorem dX8_markPasses_69 : decode cX8_markPasses 69 = .ok (.istore_n 2, 1) := by decide +kernel
theorem dX8_markPasses_70 : decode cX8_markPasses 70 = .ok (.iload_n 2, 1) := by decide +kernel
theorem dX8_markPasses_71 : decode cX8_markPasses 71 = .ok (.aload_n 0, 1) := by decide +kernel
theorem dX8_markPasses_72 : decode cX8_markPasses 72 = .ok (.getfield 9, 3) := by decide +kernel
theorem dX8_markPasses_75 : decode cX8_markPasses 75 = .ok (.if_icmp .ge 37, 3) := by decide +kernel
theorem dX8_markPasses_78 : decode cX8_markPasses 78 = .ok (.iload_n 2, 1) := by decide +kernel
theorem dX8_markPasses_79 : decode cX8_markPasses 79 = .ok (.iload_n 1, 1) := by decide +kernel
theorem dX8_markPasses_80 : decode cX8_markPasses 80 = .ok (.if_icmp .lt 26, 3) := by decide +kernel
theorem dX8_markPasses_83 : decode cX8_markPasses 83 = .ok (.aload_n 0, 1) := by decide +kernel
theorem dX8_markPasses_84 : decode cX8_markPasses 84 = .ok (.getfield 55, 3) := by decide +kernel
theorem dX8_markPasses_87 : decode cX8_markPasses 87 = .ok (.iload_n 2, 1) := by decide +kernel
theorem dX8_markPasses_88 : decode cX8_markPasses 88 = .ok (.iaload, 1) := by decide +kernel
theorem dX8_markPasses_89 : decode cX8_markPasses 89 = .ok (.ifCond .le 17, 3) := by decide +kernel
theorem dX8_markPasses_92 : decode cX8_markPasses 92 = .ok (.iload_n 2, 1) := by decide +kernel
theorem dX8_markPasses_93 : decode cX8_markPasses 93 = .ok (.aload_n 0, 1) := by decide +kernel
theorem dX8_markPasses_94 : decode cX8_markPasses 94 = .ok (.iload_n 2, 1) := by decide +kernel
theorem dX8_markPasses_95 : decode cX8_markPasses 95 = .ok (.aload_n 0, 1) := by decide +kernel
theorem dX8_markPasses_96 : decode cX8_markPasses 96 = .ok (.getfield 58, 3) := by decide +kernel
theorem dX8_markPasses_99 : decode cX8_markPasses 99 = .ok (.iload_n 2, 1) := by decide +kernel
theorem dX8_markPasses_100 : decode cX8_markPasses 100 = .ok (.iaload, 1) := by decide +kernel
theorem dX8_markPasses_101 : decode cX8_markPasses 101 = .ok (.invokevirtual 127, 3) := by decide +kernel
theorem dX8_markPasses_104 : decode cX8_markPasses 104 = .ok (.iadd, 1) := by decide +kernel
theorem dX8_markPasses_105 : decode cX8_markPasses 105 = .ok (.istore_n 1, 1) := by decide +kernel
theorem dX8_markPasses_106 : decode cX8_markPasses 106 = .ok (.iinc 2 1, 3) := by decide +kernel
theorem dX8_markPasses_109 : decode cX8_markPasses 109 = .ok (.goto (-39), 3) := by decide +kernel
theorem dX8_markPasses_112 : decode cX8_markPasses 112 = .ok (.return_, 1) := by decide +kernel
theorem dX8_weighPasses_0 : decode cX8_weighPasses 0 = .ok (.iload_n 1, 1) := by decide +kernel
theorem dX8_weighPasses_1 : decode cX8_weighPasses 1 = .ok (.iconst 1, 1) := by decide +kernel
theorem dX8_weighPasses_2 : decode cX8_weighPasses 2 = .ok (.if_icmp .ge 4, 3) := by decide +kernel
theorem dX8_weighPasses_5 : decode cX8_weighPasses 5 = .ok (.return_, 1) := by decide +kernel
theorem dX8_weighPasses_6 : decode cX8_weighPasses 6 = .ok (.iconst 0, 1) := by decide +kernel
theorem dX8_weighPasses_7 : decode cX8_weighPasses 7 = .ok (.istore_n 2, 1) := by decide +kernel
theorem dX8_weighPasses_8 : decode cX8_weighPasses 8 = .ok (.aload_n 0, 1) := by decide +kernel
theorem dX8_weighPasses_9 : decode cX8_weighPasses 9 = .ok (.getfield 9, 3) := by decide +kernel
theorem dX8_weighPasses_12 : decode cX8_weighPasses 12 = .ok (.iload_n 1, 1) := by decide +kernel
theorem dX8_weighPasses_13 : decode cX8_weighPasses 13 = .ok (.isub, 1) := by decide +kernel
theorem dX8_weighPasses_14 : decode cX8_weighPasses 14 = .ok (.iconst 1, 1) := by decide +kernel
theorem dX8_weighPasses_15 : decode cX8_weighPasses 15 = .ok (.isub, 1) := by decide +kernel
theorem dX8_weighPasses_16 : decode cX8_weighPasses 16 = .ok (.istore_n 3, 1) := by decide +kernel
theorem dX8_weighPasses_17 : decode cX8_weighPasses 17 = .ok (.iload_n 3, 1) := by decide +kernel
theorem dX8_weighPasses_18 : decode cX8_weighPasses 18 = .ok (.ifCond .lt 98, 3) := by decide +kernel
theorem dX8_weighPasses_21 : decode cX8_weighPasses 21 = .ok (.aload_n 0, 1) := by decide +kernel
theorem dX8_weighPasses_22 : decode cX8_weighPasses 22 = .ok (.getfield 28, 3) := by decide +kernel
theorem dX8_weighPasses_25 : decode cX8_weighPasses 25 = .ok (.iload_n 3, 1) := by decide +kernel
theorem dX8_weighPasses_26 : decode cX8_weighPasses 26 = .ok (.iaload, 1) := by decide +kernel
theorem dX8_weighPasses_27 : decode cX8_weighPasses 27 = .ok (.aload_n 0, 1) := by decide +kernel
theorem dX8_weighPasses_28 : decode cX8_weighPasses 28 = .ok (.getfield 28, 3) := by decide +kernel
theorem dX8_weighPasses_31 : decode cX8_weighPasses 31 = .ok (.iload_n 3, 1) := by decide +kernel
theorem dX8_weighPasses_32 : decode cX8_weighPasses 32 = .ok (.iload_n 1, 1) := by decide +kernel
theorem dX8_weighPasses_33 : decode cX8_weighPasses 33 = .ok (.iadd, 1) := by decide +kernel
theorem dX8_weighPasses_34 : decode cX8_weighPasses 34 = .ok (.iaload, 1) := by decide +kernel
theorem dX8_weighPasses_35 : decode cX8_weighPasses 35 = .ok (.if_icmp .ne 24, 3) := by decide +kernel
theorem dX8_weighPasses_38 : decode cX8_weighPasses 38 = .ok (.aload_n 0, 1) := by decide +kernel
theorem dX8_weighPasses_39 : decode cX8_weighPasses 39 = .ok (.getfield 31, 3) := by decide +kernel
theorem dX8_weighPasses_42 : decode cX8_weighPasses 42 = .ok (.iload_n 3, 1) := by decide +kernel
theorem dX8_weighPasses_43 : decode cX8_weighPasses 43 = .ok (.iaload, 1) := by decide +kernel
theorem dX8_weighPasses_44 : decode cX8_weighPasses 44 = .ok (.aload_n 0, 1) := by decide +kernel
theorem dX8_weighPasses_45 : decode cX8_weighPasses 45 = .ok (.getfield 31, 3) := by decide +kernel
theorem dX8_weighPasses_48 : decode cX8_weighPasses 48 = .ok (.iload_n 3, 1) := by decide +kernel
theorem dX8_weighPasses_49 : decode cX8_weighPasses 49 = .ok (.iload_n 1, 1) := by decide +kernel
theorem dX8_weighPasses_50 : decode cX8_weighPasses 50 = .ok (.iadd, 1) := by decide +kernel
theorem dX8_weighPasses_51 : decode cX8_weighPasses 51 = .ok (.iaload, 1) := by decide +kernel
theorem dX8_weighPasses_52 : decode cX8_weighPasses 52 = .ok (.if_icmp .ne 7, 3) := by decide +kernel
theorem dX8_weighPasses_55 : decode cX8_weighPasses 55 = .ok (.iconst 1, 1) := by decide +kernel
theorem dX8_weighPasses_56 : decode cX8_weighPasses 56 = .ok (.goto 4, 3) := by decide +kernel
theorem dX8_weighPasses_59 : decode cX8_weighPasses 59 = .ok (.iconst 0, 1) := by decide +kernel
theorem dX8_weighPasses_60 : decode cX8_weighPasses 60 = .ok (.istore 4, 2) := by decide +kernel
theorem dX8_weighPasses_62 : decode cX8_weighPasses 62 = .ok (.iload 4, 2) := by decide +kernel
theorem dX8_weighPasses_64 : decode cX8_weighPasses 64 = .ok (.ifCond .eq 9, 3) := by decide +kernel
theorem dX8_weighPasses_67 : decode cX8_weighPasses 67 = .ok (.iload_n 2, 1) := by decide +kernel
theorem dX8_weighPasses_68 : decode cX8_weighPasses 68 = .ok (.iconst 1, 1) := by decide +kernel
theorem dX8_weighPasses_69 : decode cX8_weighPasses 69 = .ok (.iadd, 1) := by decide +kernel
theorem dX8_weighPasses_70 : decode cX8_weighPasses 70 = .ok (.goto 4, 3) := by decide +kernel
theorem dX8_weighPasses_73 : decode cX8_weighPasses 73 = .ok (.iconst 0, 1) := by decide +kernel
theorem dX8_weighPasses_74 : decode cX8_weighPasses 74 = .ok (.istore_n 2, 1) := by decide +kernel
theorem dX8_weighPasses_75 : decode cX8_weighPasses 75 = .ok (.iload_n 2, 1) := by decide +kernel
theorem dX8_weighPasses_76 : decode cX8_weighPasses 76 = .ok (.iload_n 2, 1) := by decide +kernel
theorem dX8_weighPasses_77 : decode cX8_weighPasses 77 = .ok (.iload_n 1, 1) := by decide +kernel
theorem dX8_weighPasses_78 : decode cX8_weighPasses 78 = .ok (.irem, 1) := by decide +kernel
theorem dX8_weighPasses_79 : decode cX8_weighPasses 79 = .ok (.isub, 1) := by decide +kernel
theorem dX8_weighPasses_80 : decode cX8_weighPasses 80 = .ok (.iload_n 1, 1) := by decide +kernel
theorem dX8_weighPasses_81 : decode cX8_weighPasses 81 = .ok (.isub, 1) := by decide +kernel
theorem dX8_weighPasses_82 : decode cX8_weighPasses 82 = .ok (.istore 5, 2) := by decide +kernel
theorem dX8_weighPasses_84 : decode cX8_weighPasses 84 = .ok (.iload 5, 2) := by decide +kernel
theorem dX8_weighPasses_86 : decode cX8_weighPasses 86 = .ok (.aload_n 0, 1) := by decide +kernel
theorem dX8_weighPasses_87 : decode cX8_weighPasses 87 = .ok (.getfield 55, 3) := by decide +kernel
theorem dX8_weighPasses_90 : decode cX8_weighPasses 90 = .ok (.iload_n 3, 1) := by decide +kernel
theorem dX8_weighPasses_91 : decode cX8_weighPasses 91 = .ok (.iaload, 1) := by decide +kernel
theorem dX8_weighPasses_92 : decode cX8_weighPasses 92 = .ok (.if_icmp .le 18, 3) := by decide +kernel
theorem dX8_weighPasses_95 : decode cX8_weighPasses 95 = .ok (.aload_n 0, 1) := by decide +kernel
theorem dX8_weighPasses_96 : decode cX8_weighPasses 96 = .ok (.getfield 55, 3) := by decide +kernel
theorem dX8_weighPasses_99 : decode cX8_weighPasses 99 = .ok (.iload_n 3, 1) := by decide +kernel
theorem dX8_weighPasses_100 : decode cX8_weighPasses 100 = .ok (.iload 5, 2) := by decide +kernel
theorem dX8_weighPasses_102 : decode cX8_weighPasses 102 = .ok (.iastore, 1) := by decide +kernel
theorem dX8_weighPasses_103 : decode cX8_weighPasses 103 = .ok (.aload_n 0, 1) := by decide +kernel
theorem dX8_weighPasses_104 : decode cX8_weighPasses 104 = .ok (.getfield 58, 3) := by decide +kernel
theorem dX8_weighPasses_107 : decode cX8_weighPasses 107 = .ok (.iload_n 3, 1) := by decide +kernel
theorem dX8_weighPasses_108 : decode cX8_weighPasses 108 = .ok (.iload_n 1, 1) := by decide +kernel
theorem dX8_weighPasses_109 : decode cX8_weighPasses 109 = .ok (.iastore, 1) := by decide +kernel
theorem dX8_weighPasses_110 : decode cX8_weighPasses 110 = .ok (.iinc 3 (-1), 3) := by decide +kernel
theorem dX8_weighPasses_113 : decode cX8_weighPasses 113 = .ok (.goto (-96), 3) := by decide +kernel
theorem dX8_weighPasses_116 : decode cX8_weighPasses 116 = .ok (.return_, 1) := by decide +kernel
theorem dX8_markPassesFrom_0 : decode cX8_markPassesFrom 0 = .ok (.iload_n 1, 1) := by decide +kernel
theorem dX8_markPassesFrom_1 : decode cX8_markPassesFrom 1 = .ok (.iload_n 2, 1) := by decide +kernel
theorem dX8_markPassesFrom_2 : decode cX8_markPassesFrom 2 = .ok (.iadd, 1) := by decide +kernel
theorem dX8_markPassesFrom_3 : decode cX8_markPassesFrom 3 = .ok (.istore_n 3, 1) := by decide +kernel
theorem dX8_markPassesFrom_4 : decode cX8_markPassesFrom 4 = .ok (.iload_n 3, 1) := by decide +kernel
theorem dX8_markPassesFrom_5 : decode cX8_markPassesFrom 5 = .ok (.iload_n 2, 1) := by decide +kernel
theorem dX8_markPassesFrom_6 : decode cX8_markPassesFrom 6 = .ok (.iadd, 1) := by decide +kernel
theorem dX8_markPassesFrom_7 : decode cX8_markPassesFrom 7 = .ok (.istore 4, 2) := by decide +kernel
theorem dX8_markPassesFrom_9 : decode cX8_markPassesFrom 9 = .ok (.iload_n 2, 1) := by decide +kernel
theorem dX8_markPassesFrom_10 : decode cX8_markPassesFrom 10 = .ok (.ifCond .le 52, 3) := by decide +kernel
theorem dX8_markPassesFrom_13 : decode cX8_markPassesFrom 13 = .ok (.iload 4, 2) := by decide +kernel
theorem dX8_markPassesFrom_15 : decode cX8_markPassesFrom 15 = .ok (.aload_n 0, 1) := by decide +kernel
theorem dX8_markPassesFrom_16 : decode cX8_markPassesFrom 16 = .ok (.getfield 9, 3) := by decide +kernel
theorem dX8_markPassesFrom_19 : decode cX8_markPassesFrom 19 = .ok (.if_icmp .ge 43, 3) := by decide +kernel
theorem dX8_markPassesFrom_22 : decode cX8_markPassesFrom 22 = .ok (.aload_n 0, 1) := by decide +kernel
theorem dX8_markPassesFrom_23 : decode cX8_markPassesFrom 23 = .ok (.getfield 37, 3) := by decide +kernel
theorem dX8_markPassesFrom_26 : decode cX8_markPassesFrom 26 = .ok (.iload 4, 2) := by decide +kernel
theorem dX8_markPassesFrom_28 : decode cX8_markPassesFrom 28 = .ok (.iaload, 1) := by decide +kernel
theorem dX8_markPassesFrom_29 : decode cX8_markPassesFrom 29 = .ok (.istore 5, 2) := by decide +kernel
theorem dX8_markPassesFrom_31 : decode cX8_markPassesFrom 31 = .ok (.aload_n 0, 1) := by decide +kernel
theorem dX8_markPassesFrom_32 : decode cX8_markPassesFrom 32 = .ok (.getfield 49, 3) := by decide +kernel
theorem dX8_markPassesFrom_35 : decode cX8_markPassesFrom 35 = .ok (.iload 5, 2) := by decide +kernel
theorem dX8_markPassesFrom_37 : decode cX8_markPassesFrom 37 = .ok (.aload_n 0, 1) := by decide +kernel
theorem dX8_markPassesFrom_38 : decode cX8_markPassesFrom 38 = .ok (.getfield 55, 3) := by decide +kernel
theorem dX8_markPassesFrom_41 : decode cX8_markPassesFrom 41 = .ok (.iload_n 1, 1) := by decide +kernel
theorem dX8_markPassesFrom_42 : decode cX8_markPassesFrom 42 = .ok (.iaload, 1) := by decide +kernel
theorem dX8_markPassesFrom_43 : decode cX8_markPassesFrom 43 = .ok (.iload_n 2, 1) := by decide +kernel
theorem dX8_markPassesFrom_44 : decode cX8_markPassesFrom 44 = .ok (.idiv, 1) := by decide +kernel
theorem dX8_markPassesFrom_45 : decode cX8_markPassesFrom 45 = .ok (.iastore, 1) := by decide +kernel
theorem dX8_markPassesFrom_46 : decode cX8_markPassesFrom 46 = .ok (.aload_n 0, 1) := by decide +kernel
theorem dX8_markPassesFrom_47 : decode cX8_markPassesFrom 47 = .ok (.getfield 52, 3) := by decide +kernel
theorem dX8_markPassesFrom_50 : decode cX8_markPassesFrom 50 = .ok (.iload 5, 2) := by decide +kernel
theorem dX8_markPassesFrom_52 : decode cX8_markPassesFrom 52 = .ok (.iload 5, 2) := by decide +kernel
theorem dX8_markPassesFrom_54 : decode cX8_markPassesFrom 54 = .ok (.aload_n 0, 1) := by decide +kernel
theorem dX8_markPassesFrom_55 : decode cX8_markPassesFrom 55 = .ok (.getfield 37, 3) := by decide +kernel
theorem dX8_markPassesFrom_58 : decode cX8_markPassesFrom 58 = .ok (.iload_n 3, 1) := by decide +kernel
theorem dX8_markPassesFrom_59 : decode cX8_markPassesFrom 59 = .ok (.iaload, 1) := by decide +kernel
theorem dX8_markPassesFrom_60 : decode cX8_markPassesFrom 60 = .ok (.isub, 1) := by decide +kernel
theorem dX8_markPassesFrom_61 : decode cX8_markPassesFrom 61 = .ok (.iastore, 1) := by decide +kernel
theorem dX8_markPassesFrom_62 : decode cX8_markPassesFrom 62 = .ok (.iconst 2, 1) := by decide +kernel
theorem dX8_markPassesFrom_63 : decode cX8_markPassesFrom 63 = .ok (.iload_n 2, 1) := by decide +kernel
theorem dX8_markPassesFrom_64 : decode cX8_markPassesFrom 64 = .ok (.imul, 1) := by decide +kernel
theorem dX8_markPassesFrom_65 : decode cX8_markPassesFrom 65 = .ok (.aload_n 0, 1) := by decide +kernel
theorem dX8_markPassesFrom_66 : decode cX8_markPassesFrom 66 = .ok (.getfield 55, 3) := by decide +kernel
theorem dX8_markPassesFrom_69 : decode cX8_markPassesFrom 69 = .ok (.iload_n 1, 1) := by decide +kernel
theorem dX8_markPassesFrom_70 : decode cX8_markPassesFrom 70 = .ok (.iaload, 1) := by decide +kernel
theorem dX8_markPassesFrom_71 : decode cX8_markPassesFrom 71 = .ok (.iadd, 1) := by decide +kernel
theorem dX8_markPassesFrom_72 : decode cX8_markPassesFrom 72 = .ok (.ireturn, 1) := by decide +kernel
theorem dX8_readingsOf_0 : decode cX8_readingsOf 0 = .ok (.iconst 0, 1) := by decide +kernel
theorem dX8_readingsOf_1 : decode cX8_readingsOf 1 = .ok (.istore_n 2, 1) := by decide +kernel
theorem dX8_readingsOf_2 : decode cX8_readingsOf 2 = .ok (.iconst 0, 1) := by decide +kernel
theorem dX8_readingsOf_3 : decode cX8_readingsOf 3 = .ok (.istore_n 3, 1) := by decide +kernel
theorem dX8_readingsOf_4 : decode cX8_readingsOf 4 = .ok (.iload_n 3, 1) := by decide +kernel
theorem dX8_readingsOf_5 : decode cX8_readingsOf 5 = .ok (.aload_n 0, 1) := by decide +kernel
theorem dX8_readingsOf_6 : decode cX8_readingsOf 6 = .ok (.getfield 40, 3) := by decide +kernel
theorem dX8_readingsOf_9 : decode cX8_readingsOf 9 = .ok (.if_icmp .ge 22, 3) := by decide +kernel
theorem dX8_readingsOf_12 : decode cX8_readingsOf 12 = .ok (.aload_n 0, 1) := by decide +kernel
theorem dX8_readingsOf_13 : decode cX8_readingsOf 13 = .ok (.getfield 43, 3) := by decide +kernel
theorem dX8_readingsOf_16 : decode cX8_readingsOf 16 = .ok (.iload_n 3, 1) := by decide +kernel
theorem dX8_readingsOf_17 : decode cX8_readingsOf 17 = .ok (.iaload, 1) := by decide +kernel
theorem dX8_readingsOf_18 : decode cX8_readingsOf 18 = .ok (.iload_n 1, 1) := by decide +kernel
theorem dX8_readingsOf_19 : decode cX8_readingsOf 19 = .ok (.if_icmp .ne 6, 3) := by decide +kernel
theorem dX8_readingsOf_22 : decode cX8_readingsOf 22 = .ok (.iinc 2 1, 3) := by decide +kernel
theorem dX8_readingsOf_25 : decode cX8_readingsOf 25 = .ok (.iinc 3 1, 3) := by decide +kernel
theorem dX8_readingsOf_28 : decode cX8_readingsOf 28 = .ok (.goto (-24), 3) := by decide +kernel
theorem dX8_readingsOf_31 : decode cX8_readingsOf 31 = .ok (.iload_n 2, 1) := by decide +kernel
theorem dX8_readingsOf_32 : decode cX8_readingsOf 32 = .ok (.ireturn, 1) := by decide +kernel
theorem dX9_init_0 : decode cX9_init 0 = .ok (.aload_n 0, 1) := by decide +kernel
theorem dX9_init_1 : decode cX9_init 1 = .ok (.invokespecial 1, 3) := by decide +kernel
theorem dX9_init_4 : decode cX9_init 4 = .ok (.new 7, 3) := by decide +kernel
theorem dX9_init_7 : decode cX9_init 7 = .ok (.dup, 1) := by decide +kernel
theorem dX9_init_8 : decode cX9_init 8 = .ok (.invokespecial 9, 3) := by decide +kernel
theorem dX9_init_11 : decode cX9_init 11 = .ok (.astore_n 1, 1) := by decide +kernel
theorem dX9_init_12 : decode cX9_init 12 = .ok (.new 10, 3) := by decide +kernel
theorem dX9_init_15 : decode cX9_init 15 = .ok (.dup, 1) := by decide +kernel
theorem dX9_init_16 : decode cX9_init 16 = .ok (.invokespecial 12, 3) := by decide +kernel
theorem dX9_init_19 : decode cX9_init 19 = .ok (.astore_n 2, 1) := by decide +kernel
theorem dX9_init_20 : decode cX9_init 20 = .ok (.new 13, 3) := by decide +kernel
theorem dX9_init_23 : decode cX9_init 23 = .ok (.dup, 1) := by decide +kernel
theorem dX9_init_24 : decode cX9_init 24 = .ok (.aload_n 2, 1) := by decide +kernel
theorem dX9_init_25 : decode cX9_init 25 = .ok (.invokespecial 15, 3) := by decide +kernel
theorem dX9_init_28 : decode cX9_init 28 = .ok (.astore_n 3, 1) := by decide +kernel
theorem dX9_init_29 : decode cX9_init 29 = .ok (.new 18, 3) := by decide +kernel
theorem dX9_init_32 : decode cX9_init 32 = .ok (.dup, 1) := by decide +kernel
theorem dX9_init_33 : decode cX9_init 33 = .ok (.aload_n 2, 1) := by decide +kernel
theorem dX9_init_34 : decode cX9_init 34 = .ok (.aload_n 3, 1) := by decide +kernel
theorem dX9_init_35 : decode cX9_init 35 = .ok (.invokespecial 20, 3) := by decide +kernel
theorem dX9_init_38 : decode cX9_init 38 = .ok (.astore 4, 2) := by decide +kernel
theorem dX9_init_40 : decode cX9_init 40 = .ok (.aload_n 0, 1) := by decide +kernel
theorem dX9_init_41 : decode cX9_init 41 = .ok (.aload_n 1, 1) := by decide +kernel
theorem dX9_init_42 : decode cX9_init 42 = .ok (.putfield 23, 3) := by decide +kernel
theorem dX9_init_45 : decode cX9_init 45 = .ok (.aload_n 0, 1) := by decide +kernel
theorem dX9_init_46 : decode cX9_init 46 = .ok (.new 29, 3) := by decide +kernel
theorem dX9_init_49 : decode cX9_init 49 = .ok (.dup, 1) := by decide +kernel
theorem dX9_init_50 : decode cX9_init 50 = .ok (.aload_n 1, 1) := by decide +kernel
theorem dX9_init_51 : decode cX9_init 51 = .ok (.invokespecial 31, 3) := by decide +kernel
theorem dX9_init_54 : decode cX9_init 54 = .ok (.putfield 34, 3) := by decide +kernel
theorem dX9_init_57 : decode cX9_init 57 = .ok (.aload_n 0, 1) := by decide +kernel
theorem dX9_init_58 : decode cX9_init 58 = .ok (.new 10, 3) := by decide +kernel
theorem dX9_init_61 : decode cX9_init 61 = .ok (.dup, 1) := by decide +kernel
theorem dX9_init_62 : decode cX9_init 62 = .ok (.invokespecial 12, 3) := by decide +kernel
theorem dX9_init_65 : decode cX9_init 65 = .ok (.putfield 38, 3) := by decide +kernel
theorem dX9_init_68 : decode cX9_init 68 = .ok (.aload_n 0, 1) := by decide +kernel
theorem dX9_init_69 : decode cX9_init 69 = .ok (.aload_n 2, 1) := by decide +kernel
theorem dX9_init_70 : decode cX9_init 70 = .ok (.putfield 42, 3) := by decide +kernel
theorem dX9_init_73 : decode cX9_init 73 = .ok (.aload_n 0, 1) := by decide +kernel
theorem dX9_init_74 : decode cX9_init 74 = .ok (.aload_n 3, 1) := by decide +kernel
theorem dX9_init_75 : decode cX9_init 75 = .ok (.putfield 45, 3) := by decide +kernel
theorem dX9_init_78 : decode cX9_init 78 = .ok (.aload_n 0, 1) := by decide +kernel
theorem dX9_init_79 : decode cX9_init 79 = .ok (.aload 4, 2) := by decide +kernel
theorem dX9_init_81 : decode cX9_init 81 = .ok (.putfield 49, 3) := by decide +kernel
theorem dX9_init_84 : decode cX9_init 84 = .ok (.aload_n 0, 1) := by decide +kernel
theorem dX9_init_85 : decode cX9_init 85 = .ok (.new 53, 3) := by decide +kernel
theorem dX9_init_88 : decode cX9_init 88 = .ok (.dup, 1) := by decide +kernel
theorem dX9_init_89 : decode cX9_init 89 = .ok (.aload_n 2, 1) := by decide +kernel
theorem dX9_init_90 : decode cX9_init 90 = .ok (.aload_n 3, 1) := by decide +kernel
theorem dX9_init_91 : decode cX9_init 91 = .ok (.aload 4, 2) := by decide +kernel
theorem dX9_init_93 : decode cX9_init 93 = .ok (.invokespecial 55, 3) := by decide +kernel
theorem dX9_init_96 : decode cX9_init 96 = .ok (.putfield 58, 3) := by decide +kernel
theorem dX9_init_99 : decode cX9_init 99 = .ok (.aload_n 0, 1) := by decide +kernel
theorem dX9_init_100 : decode cX9_init 100 = .ok (.new 62, 3) := by decide +kernel
theorem dX9_init_103 : decode cX9_init 103 = .ok (.dup, 1) := by decide +kernel
theorem dX9_init_104 : decode cX9_init 104 = .ok (.aload_n 2, 1) := by decide +kernel
theorem dX9_init_105 : decode cX9_init 105 = .ok (.aload 4, 2) := by decide +kernel
theorem dX9_init_107 : decode cX9_init 107 = .ok (.invokespecial 64, 3) := by decide +kernel
theorem dX9_init_110 : decode cX9_init 110 = .ok (.putfield 67, 3) := by decide +kernel
theorem dX9_init_113 : decode cX9_init 113 = .ok (.aload_n 0, 1) := by decide +kernel
theorem dX9_init_114 : decode cX9_init 114 = .ok (.new 71, 3) := by decide +kernel
theorem dX9_init_117 : decode cX9_init 117 = .ok (.dup, 1) := by decide +kernel
theorem dX9_init_118 : decode cX9_init 118 = .ok (.invokespecial 73, 3) := by decide +kernel
theorem dX9_init_121 : decode cX9_init 121 = .ok (.putfield 74, 3) := by decide +kernel
theorem dX9_init_124 : decode cX9_init 124 = .ok (.aload_n 0, 1) := by decide +kernel
theorem dX9_init_125 : decode cX9_init 125 = .ok (.bipush 20, 2) := by decide +kernel
theorem dX9_init_127 : decode cX9_init 127 = .ok (.newarray .int, 2) := by decide +kernel
theorem dX9_init_129 : decode cX9_init 129 = .ok (.putfield 78, 3) := by decide +kernel
theorem dX9_init_132 : decode cX9_init 132 = .ok (.aload_n 0, 1) := by decide +kernel
theorem dX9_init_133 : decode cX9_init 133 = .ok (.bipush 20, 2) := by decide +kernel
theorem dX9_init_135 : decode cX9_init 135 = .ok (.newarray .int, 2) := by decide +kernel
theorem dX9_init_137 : decode cX9_init 137 = .ok (.putfield 82, 3) := by decide +kernel
theorem dX9_init_140 : decode cX9_init 140 = .ok (.aload_n 0, 1) := by decide +kernel
theorem dX9_init_141 : decode cX9_init 141 = .ok (.iconst 0, 1) := by decide +kernel
theorem dX9_init_142 : decode cX9_init 142 = .ok (.putfield 85, 3) := by decide +kernel
theorem dX9_init_145 : decode cX9_init 145 = .ok (.aload_n 0, 1) := by decide +kernel
theorem dX9_init_146 : decode cX9_init 146 = .ok (.iconst (-1), 1) := by decide +kernel
theorem dX9_init_147 : decode cX9_init 147 = .ok (.putfield 89, 3) := by decide +kernel
theorem dX9_init_150 : decode cX9_init 150 = .ok (.return_, 1) := by decide +kernel
theorem dX9_feed_0 : decode cX9_feed 0 = .ok (.aload_n 0, 1) := by decide +kernel
theorem dX9_feed_1 : decode cX9_feed 1 = .ok (.getfield 23, 3) := by decide +kernel
theorem dX9_feed_4 : decode cX9_feed 4 = .ok (.getfield 92, 3) := by decide +kernel
theorem dX9_feed_7 : decode cX9_feed 7 = .ok (.bipush 20, 2) := by decide +kernel
theorem dX9_feed_9 : decode cX9_feed 9 = .ok (.iadd, 1) := by decide +kernel
theorem dX9_feed_10 : decode cX9_feed 10 = .ok (.sipush 700, 3) := by decide +kernel
theorem dX9_feed_13 : decode cX9_feed 13 = .ok (.if_icmp .le 5, 3) := by decide +kernel
theorem dX9_feed_16 : decode cX9_feed 16 = .ok (.iconst (-1), 1) := by decide +kernel
theorem dX9_feed_17 : decode cX9_feed 17 = .ok (.ireturn, 1) := by decide +kernel
theorem dX9_feed_18 : decode cX9_feed 18 = .ok (.aload_n 0, 1) := by decide +kernel
theorem dX9_feed_19 : decode cX9_feed 19 = .ok (.getfield 23, 3) := by decide +kernel
theorem dX9_feed_22 : decode cX9_feed 22 = .ok (.iload_n 1, 1) := by decide +kernel
theorem dX9_feed_23 : decode cX9_feed 23 = .ok (.invokevirtual 95, 3) := by decide +kernel
theorem dX9_feed_26 : decode cX9_feed 26 = .ok (.aload_n 0, 1) := by decide +kernel
theorem dX9_feed_27 : decode cX9_feed 27 = .ok (.getfield 23, 3) := by decide +kernel
theorem dX9_feed_30 : decode cX9_feed 30 = .ok (.iload_n 2, 1) := by decide +kernel
theorem dX9_feed_31 : decode cX9_feed 31 = .ok (.invokevirtual 95, 3) := by decide +kernel
theorem dX9_feed_34 : decode cX9_feed 34 = .ok (.aload_n 0, 1) := by decide +kernel
theorem dX9_feed_35 : decode cX9_feed 35 = .ok (.getfield 23, 3) := by decide +kernel
theorem dX9_feed_38 : decode cX9_feed 38 = .ok (.iload_n 3, 1) := by decide +kernel
theorem dX9_feed_39 : decode cX9_feed 39 = .ok (.invokevirtual 95, 3) := by decide +kernel
theorem dX9_feed_42 : decode cX9_feed 42 = .ok (.aload_n 0, 1) := by decide +kernel
theorem dX9_feed_43 : decode cX9_feed 43 = .ok (.getfield 23, 3) := by decide +kernel
theorem dX9_feed_46 : decode cX9_feed 46 = .ok (.iload 4, 2) := by decide +kernel
theorem dX9_feed_48 : decode cX9_feed 48 = .ok (.invokevirtual 95, 3) := by decide +kernel
theorem dX9_feed_51 : decode cX9_feed 51 = .ok (.aload_n 0, 1) := by decide +kernel
theorem dX9_feed_52 : decode cX9_feed 52 = .ok (.getfield 23, 3) := by decide +kernel
theorem dX9_feed_55 : decode cX9_feed 55 = .ok (.iload 5, 2) := by decide +kernel
theorem dX9_feed_57 : decode cX9_feed 57 = .ok (.invokevirtual 95, 3) := by decide +kernel
theorem dX9_feed_60 : decode cX9_feed 60 = .ok (.aload_n 0, 1) := by decide +kernel
theorem dX9_feed_61 : decode cX9_feed 61 = .ok (.getfield 23, 3) := by decide +kernel
theorem dX9_feed_64 : decode cX9_feed 64 = .ok (.getfield 92, 3) := by decide +kernel
theorem dX9_feed_67 : decode cX9_feed 67 = .ok (.ireturn, 1) := by decide +kernel
theorem dX9_end_0 : decode cX9_end 0 = .ok (.iload_n 1, 1) := by decide +kernel
theorem dX9_end_1 : decode cX9_end 1 = .ok (.ifCond .lt 14, 3) := by decide +kernel
theorem dX9_end_4 : decode cX9_end 4 = .ok (.iload_n 1, 1) := by decide +kernel
theorem dX9_end_5 : decode cX9_end 5 = .ok (.aload_n 0, 1) := by decide +kernel
theorem dX9_end_6 : decode cX9_end 6 = .ok (.getfield 23, 3) := by decide +kernel
theorem dX9_end_9 : decode cX9_end 9 = .ok (.getfield 92, 3) := by decide +kernel
theorem dX9_end_12 : decode cX9_end 12 = .ok (.if_icmp .le 5, 3) := by decide +kernel
theorem dX9_end_15 : decode cX9_end 15 = .ok (.iconst (-1), 1) := by decide +kernel
theorem dX9_end_16 : decode cX9_end 16 = .ok (.ireturn, 1) := by decide +kernel
theorem dX9_end_17 : decode cX9_end 17 = .ok (.aload_n 0, 1) := by decide +kernel
theorem dX9_end_18 : decode cX9_end 18 = .ok (.getfield 23, 3) := by decide +kernel
theorem dX9_end_21 : decode cX9_end 21 = .ok (.iload_n 1, 1) := by decide +kernel
theorem dX9_end_22 : decode cX9_end 22 = .ok (.putfield 92, 3) := by decide +kernel
theorem dX9_end_25 : decode cX9_end 25 = .ok (.iload_n 1, 1) := by decide +kernel
theorem dX9_end_26 : decode cX9_end 26 = .ok (.ireturn, 1) := by decide +kernel
theorem dX9_drum_0 : decode cX9_drum 0 = .ok (.aload_n 0, 1) := by decide +kernel
theorem dX9_drum_1 : decode cX9_drum 1 = .ok (.getfield 34, 3) := by decide +kernel
theorem dX9_drum_4 : decode cX9_drum 4 = .ok (.aload_n 0, 1) := by decide +kernel
theorem dX9_drum_5 : decode cX9_drum 5 = .ok (.getfield 38, 3) := by decide +kernel
theorem dX9_drum_8 : decode cX9_drum 8 = .ok (.invokevirtual 99, 3) := by decide +kernel
theorem dX9_drum_11 : decode cX9_drum 11 = .ok (.aload_n 0, 1) := by decide +kernel
theorem dX9_drum_12 : decode cX9_drum 12 = .ok (.aload_n 0, 1) := by decide +kernel
theorem dX9_drum_13 : decode cX9_drum 13 = .ok (.getfield 34, 3) := by decide +kernel
theorem dX9_drum_16 : decode cX9_drum 16 = .ok (.getfield 102, 3) := by decide +kernel
theorem dX9_drum_19 : decode cX9_drum 19 = .ok (.putfield 85, 3) := by decide +kernel
theorem dX9_drum_22 : decode cX9_drum 22 = .ok (.aload_n 0, 1) := by decide +kernel
theorem dX9_drum_23 : decode cX9_drum 23 = .ok (.aload_n 0, 1) := by decide +kernel
theorem dX9_drum_24 : decode cX9_drum 24 = .ok (.getfield 34, 3) := by decide +kernel
theorem dX9_drum_27 : decode cX9_drum 27 = .ok (.getfield 103, 3) := by decide +kernel
theorem dX9_drum_30 : decode cX9_drum 30 = .ok (.putfield 89, 3) := by decide +kernel
theorem dX9_drum_33 : decode cX9_drum 33 = .ok (.aload_n 0, 1) := by decide +kernel
theorem dX9_drum_34 : decode cX9_drum 34 = .ok (.getfield 23, 3) := by decide +kernel
theorem dX9_drum_37 : decode cX9_drum 37 = .ok (.iconst 0, 1) := by decide +kernel
theorem dX9_drum_38 : decode cX9_drum 38 = .ok (.putfield 92, 3) := by decide +kernel
theorem dX9_drum_41 : decode cX9_drum 41 = .ok (.aload_n 0, 1) := by decide +kernel
theorem dX9_drum_42 : decode cX9_drum 42 = .ok (.getfield 85, 3) := by decide +kernel
theorem dX9_drum_45 : decode cX9_drum 45 = .ok (.ifCond .eq 6, 3) := by decide +kernel
theorem dX9_drum_48 : decode cX9_drum 48 = .ok (.bipush (-4), 2) := by decide +kernel
theorem dX9_drum_50 : decode cX9_drum 50 = .ok (.ireturn, 1) := by decide +kernel
theorem dX9_drum_51 : decode cX9_drum 51 = .ok (.aload_n 0, 1) := by decide +kernel
theorem dX9_drum_52 : decode cX9_drum 52 = .ok (.getfield 42, 3) := by decide +kernel
theorem dX9_drum_55 : decode cX9_drum 55 = .ok (.aload_n 0, 1) := by decide +kernel
theorem dX9_drum_56 : decode cX9_drum 56 = .ok (.getfield 38, 3) := by decide +kernel
theorem dX9_drum_59 : decode cX9_drum 59 = .ok (.invokevirtual 104, 3) := by decide +kernel
theorem dX9_drum_62 : decode cX9_drum 62 = .ok (.aload_n 0, 1) := by decide +kernel
theorem dX9_drum_63 : decode cX9_drum 63 = .ok (.getfield 45, 3) := by decide +kernel
theorem dX9_drum_66 : decode cX9_drum 66 = .ok (.invokevirtual 107, 3) := by decide +kernel
theorem dX9_drum_69 : decode cX9_drum 69 = .ok (.aload_n 0, 1) := by decide +kernel
theorem dX9_drum_70 : decode cX9_drum 70 = .ok (.getfield 58, 3) := by decide +kernel
theorem dX9_drum_73 : decode cX9_drum 73 = .ok (.aload_n 0, 1) := by decide +kernel
theorem dX9_drum_74 : decode cX9_drum 74 = .ok (.getfield 78, 3) := by decide +kernel
theorem dX9_drum_77 : decode cX9_drum 77 = .ok (.invokevirtual 110, 3) := by decide +kernel
theorem dX9_drum_80 : decode cX9_drum 80 = .ok (.aload_n 0, 1) := by decide +kernel
theorem dX9_drum_81 : decode cX9_drum 81 = .ok (.getfield 67, 3) := by decide +kernel
theorem dX9_drum_84 : decode cX9_drum 84 = .ok (.invokevirtual 114, 3) := by decide +kernel
theorem dX9_drum_87 : decode cX9_drum 87 = .ok (.aload_n 0, 1) := by decide +kernel
theorem dX9_drum_88 : decode cX9_drum 88 = .ok (.getfield 74, 3) := by decide +kernel
theorem dX9_drum_91 : decode cX9_drum 91 = .ok (.iconst 0, 1) := by decide +kernel
theorem dX9_drum_92 : decode cX9_drum 92 = .ok (.putfield 117, 3) := by decide +kernel
theorem dX9_drum_95 : decode cX9_drum 95 = .ok (.aload_n 0, 1) := by decide +kernel
theorem dX9_drum_96 : decode cX9_drum 96 = .ok (.getfield 42, 3) := by decide +kernel
theorem dX9_drum_99 : decode cX9_drum 99 = .ok (.getfield 120, 3) := by decide +kernel
theorem dX9_drum_102 : decode cX9_drum 102 = .ok (.ireturn, 1) := by decide +kernel
theorem dX9_fault_0 : decode cX9_fault 0 = .ok (.iload_n 1, 1) := by decide +kernel
theorem dX9_fault_1 : decode cX9_fault 1 = .ok (.lookupswitch 37 #[(0, 27), (1, 32)], 27) := by decide +kernel
theorem dX9_fault_28 : decode cX9_fault 28 = .ok (.aload_n 0, 1) := by decide +kernel
theorem dX9_fault_29 : decode cX9_fault 29 = .ok (.getfield 85, 3) := by decide +kernel
theorem dX9_fault_32 : decode cX9_fault 32 = .ok (.ireturn, 1) := by decide +kernel
theorem dX9_fault_33 : decode cX9_fault 33 = .ok (.aload_n 0, 1) := by decide +kernel
theorem dX9_fault_34 : decode cX9_fault 34 = .ok (.getfield 89, 3) := by decide +kernel
theorem dX9_fault_37 : decode cX9_fault 37 = .ok (.ireturn, 1) := by decide +kernel
theorem dX9_fault_38 : decode cX9_fault 38 = .ok (.iconst (-1), 1) := by decide +kernel
theorem dX9_fault_39 : decode cX9_fault 39 = .ok (.ireturn, 1) := by decide +kernel
theorem dX9_count_0 : decode cX9_count 0 = .ok (.iload_n 1, 1) := by decide +kernel
theorem dX9_count_1 : decode cX9_count 1 = .ok (.tableswitch 147 0 10 #[59, 67, 75, 83, 91, 99, 107, 115, 123, 131, 139], 59) := by decide +kernel
theorem dX9_count_60 : decode cX9_count 60 = .ok (.aload_n 0, 1) := by decide +kernel
theorem dX9_count_61 : decode cX9_count 61 = .ok (.getfield 42, 3) := by decide +kernel
theorem dX9_count_64 : decode cX9_count 64 = .ok (.getfield 123, 3) := by decide +kernel
theorem dX9_count_67 : decode cX9_count 67 = .ok (.ireturn, 1) := by decide +kernel
theorem dX9_count_68 : decode cX9_count 68 = .ok (.aload_n 0, 1) := by decide +kernel
theorem dX9_count_69 : decode cX9_count 69 = .ok (.getfield 42, 3) := by decide +kernel
theorem dX9_count_72 : decode cX9_count 72 = .ok (.getfield 126, 3) := by decide +kernel
theorem dX9_count_75 : decode cX9_count 75 = .ok (.ireturn, 1) := by decide +kernel
theorem dX9_count_76 : decode cX9_count 76 = .ok (.aload_n 0, 1) := by decide +kernel
theorem dX9_count_77 : decode cX9_count 77 = .ok (.getfield 42, 3) := by decide +kernel
theorem dX9_count_80 : decode cX9_count 80 = .ok (.getfield 129, 3) := by decide +kernel
theorem dX9_count_83 : decode cX9_count 83 = .ok (.ireturn, 1) := by decide +kernel
theorem dX9_count_84 : decode cX9_count 84 = .ok (.aload_n 0, 1) := by decide +kernel
theorem dX9_count_85 : decode cX9_count 85 = .ok (.getfield 42, 3) := by decide +kernel
theorem dX9_count_88 : decode cX9_count 88 = .ok (.getfield 132, 3) := by decide +kernel
theorem dX9_count_91 : decode cX9_count 91 = .ok (.ireturn, 1) := by decide +kernel
theorem dX9_count_92 : decode cX9_count 92 = .ok (.aload_n 0, 1) := by decide +kernel
theorem dX9_count_93 : decode cX9_count 93 = .ok (.getfield 42, 3) := by decide +kernel
theorem dX9_count_96 : decode cX9_count 96 = .ok (.getfield 135, 3) := by decide +kernel
theorem dX9_count_99 : decode cX9_count 99 = .ok (.ireturn, 1) := by decide +kernel
theorem dX9_count_100 : decode cX9_count 100 = .ok (.aload_n 0, 1) := by decide +kernel
theorem dX9_count_101 : decode cX9_count 101 = .ok (.getfield 42, 3) := by decide +kernel
theorem dX9_count_104 : decode cX9_count 104 = .ok (.getfield 138, 3) := by decide +kernel
theorem dX9_count_107 : decode cX9_count 107 = .ok (.ireturn, 1) := by decide +kernel
theorem dX9_count_108 : decode cX9_count 108 = .ok (.aload_n 0, 1) := by decide +kernel
theorem dX9_count_109 : decode cX9_count 109 = .ok (.getfield 42, 3) := by decide +kernel
theorem dX9_count_112 : decode cX9_count 112 = .ok (.getfield 141, 3) := by decide +kernel
theorem dX9_count_115 : decode cX9_count 115 = .ok (.ireturn, 1) := by decide +kernel
theorem dX9_count_116 : decode cX9_count 116 = .ok (.aload_n 0, 1) := by decide +kernel
theorem dX9_count_117 : decode cX9_count 117 = .ok (.getfield 42, 3) := by decide +kernel
theorem dX9_count_120 : decode cX9_count 120 = .ok (.invokevirtual 144, 3) := by decide +kernel
theorem dX9_count_123 : decode cX9_count 123 = .ok (.ireturn, 1) := by decide +kernel
theorem dX9_count_124 : decode cX9_count 124 = .ok (.aload_n 0, 1) := by decide +kernel
theorem dX9_count_125 : decode cX9_count 125 = .ok (.getfield 74, 3) := by decide +kernel
theorem dX9_count_128 : decode cX9_count 128 = .ok (.getfield 117, 3) := by decide +kernel
theorem dX9_count_131 : decode cX9_count 131 = .ok (.ireturn, 1) := by decide +kernel
theorem dX9_count_132 : decode cX9_count 132 = .ok (.aload_n 0, 1) := by decide +kernel
theorem dX9_count_133 : decode cX9_count 133 = .ok (.getfield 42, 3) := by decide +kernel
theorem dX9_count_136 : decode cX9_count 136 = .ok (.getfield 120, 3) := by decide +kernel
theorem dX9_count_139 : decode cX9_count 139 = .ok (.ireturn, 1) := by decide +kernel
theorem dX9_count_140 : decode cX9_count 140 = .ok (.aload_n 0, 1) := by decide +kernel
theorem dX9_count_141 : decode cX9_count 141 = .ok (.getfield 23, 3) := by decide +kernel
theorem dX9_count_144 : decode cX9_count 144 = .ok (.getfield 92, 3) := by decide +kernel
theorem dX9_count_147 : decode cX9_count 147 = .ok (.ireturn, 1) := by decide +kernel
theorem dX9_count_148 : decode cX9_count 148 = .ok (.iconst (-1), 1) := by decide +kernel
theorem dX9_count_149 : decode cX9_count 149 = .ok (.ireturn, 1) := by decide +kernel
theorem dX9_item_0 : decode cX9_item 0 = .ok (.aload_n 0, 1) := by decide +kernel
theorem dX9_item_1 : decode cX9_item 1 = .ok (.getfield 42, 3) := by decide +kernel
theorem dX9_item_4 : decode cX9_item 4 = .ok (.iload_n 1, 1) := by decide +kernel
theorem dX9_item_5 : decode cX9_item 5 = .ok (.invokevirtual 148, 3) := by decide +kernel
theorem dX9_item_8 : decode cX9_item 8 = .ok (.ifCond .ne 6, 3) := by decide +kernel
theorem dX9_item_11 : decode cX9_item 11 = .ok (.bipush (-2), 2) := by decide +kernel
theorem dX9_item_13 : decode cX9_item 13 = .ok (.ireturn, 1) := by decide +kernel
theorem dX9_item_14 : decode cX9_item 14 = .ok (.iload_n 2, 1) := by decide +kernel
theorem dX9_item_15 : decode cX9_item 15 = .ok (.tableswitch 80 0 3 #[29, 46, 53, 70], 29) := by decide +kernel
theorem dX9_item_44 : decode cX9_item 44 = .ok (.aload_n 0, 1) := by decide +kernel
theorem dX9_item_45 : decode cX9_item 45 = .ok (.getfield 42, 3) := by decide +kernel
theorem dX9_item_48 : decode cX9_item 48 = .ok (.iload_n 1, 1) := by decide +kernel
theorem dX9_item_49 : decode cX9_item 49 = .ok (.invokevirtual 152, 3) := by decide +kernel
theorem dX9_item_52 : decode cX9_item 52 = .ok (.ifCond .eq 7, 3) := by decide +kernel
theorem dX9_item_55 : decode cX9_item 55 = .ok (.iconst 1, 1) := by decide +kernel
theorem dX9_item_56 : decode cX9_item 56 = .ok (.goto 4, 3) := by decide +kernel
theorem dX9_item_59 : decode cX9_item 59 = .ok (.iconst 0, 1) := by decide +kernel
theorem dX9_item_60 : decode cX9_item 60 = .ok (.ireturn, 1) := by decide +kernel
theorem dX9_item_61 : decode cX9_item 61 = .ok (.aload_n 0, 1) := by decide +kernel
theorem dX9_item_62 : decode cX9_item 62 = .ok (.getfield 78, 3) := by decide +kernel
theorem dX9_item_65 : decode cX9_item 65 = .ok (.iload_n 1, 1) := by decide +kernel
theorem dX9_item_66 : decode cX9_item 66 = .ok (.iaload, 1) := by decide +kernel
theorem dX9_item_67 : decode cX9_item 67 = .ok (.ireturn, 1) := by decide +kernel
theorem dX9_item_68 : decode cX9_item 68 = .ok (.aload_n 0, 1) := by decide +kernel
theorem dX9_item_69 : decode cX9_item 69 = .ok (.getfield 42, 3) := by decide +kernel
theorem dX9_item_72 : decode cX9_item 72 = .ok (.iload_n 1, 1) := by decide +kernel
theorem dX9_item_73 : decode cX9_item 73 = .ok (.invokevirtual 155, 3) := by decide +kernel
theorem dX9_item_76 : decode cX9_item 76 = .ok (.ifCond .eq 7, 3) := by decide +kernel
theorem dX9_item_79 : decode cX9_item 79 = .ok (.iconst 1, 1) := by decide +kernel
theorem dX9_item_80 : decode cX9_item 80 = .ok (.goto 4, 3) := by decide +kernel
theorem dX9_item_83 : decode cX9_item 83 = .ok (.iconst 0, 1) := by decide +kernel
theorem dX9_item_84 : decode cX9_item 84 = .ok (.ireturn, 1) := by decide +kernel
theorem dX9_item_85 : decode cX9_item 85 = .ok (.aload_n 0, 1) := by decide +kernel
theorem dX9_item_86 : decode cX9_item 86 = .ok (.getfield 42, 3) := by decide +kernel
theorem dX9_item_89 : decode cX9_item 89 = .ok (.getfield 158, 3) := by decide +kernel
theorem dX9_item_92 : decode cX9_item 92 = .ok (.iload_n 1, 1) := by decide +kernel
theorem dX9_item_93 : decode cX9_item 93 = .ok (.iaload, 1) := by decide +kernel
theorem dX9_item_94 : decode cX9_item 94 = .ok (.ireturn, 1) := by decide +kernel
theorem dX9_item_95 : decode cX9_item 95 = .ok (.bipush (-2), 2) := by decide +kernel
theorem dX9_item_97 : decode cX9_item 97 = .ok (.ireturn, 1) := by decide +kernel
theorem dX9_at_0 : decode cX9_at 0 = .ok (.aload_n 0, 1) := by decide +kernel
theorem dX9_at_1 : decode cX9_at 1 = .ok (.getfield 42, 3) := by decide +kernel
theorem dX9_at_4 : decode cX9_at 4 = .ok (.iload_n 1, 1) := by decide +kernel
theorem dX9_at_5 : decode cX9_at 5 = .ok (.invokevirtual 161, 3) := by decide +kernel
theorem dX9_at_8 : decode cX9_at 8 = .ok (.ifCond .eq 11, 3) := by decide +kernel
theorem dX9_at_11 : decode cX9_at 11 = .ok (.aload_n 0, 1) := by decide +kernel
theorem dX9_at_12 : decode cX9_at 12 = .ok (.iload_n 1, 1) := by decide +kernel
theorem dX9_at_13 : decode cX9_at 13 = .ok (.invokevirtual 164, 3) := by decide +kernel
theorem dX9_at_16 : decode cX9_at 16 = .ok (.goto 5, 3) := by decide +kernel
theorem dX9_at_19 : decode cX9_at 19 = .ok (.bipush (-2), 2) := by decide +kernel
theorem dX9_at_21 : decode cX9_at 21 = .ok (.ireturn, 1) := by decide +kernel
theorem dX9_steps_0 : decode cX9_steps 0 = .ok (.aload_n 0, 1) := by decide +kernel
theorem dX9_steps_1 : decode cX9_steps 1 = .ok (.getfield 42, 3) := by decide +kernel
theorem dX9_steps_4 : decode cX9_steps 4 = .ok (.getfield 141, 3) := by decide +kernel
theorem dX9_steps_7 : decode cX9_steps 7 = .ok (.ifCond .le 13, 3) := by decide +kernel
theorem dX9_steps_10 : decode cX9_steps 10 = .ok (.aload_n 0, 1) := by decide +kernel
theorem dX9_steps_11 : decode cX9_steps 11 = .ok (.getfield 45, 3) := by decide +kernel
theorem dX9_steps_14 : decode cX9_steps 14 = .ok (.getfield 168, 3) := by decide +kernel
theorem dX9_steps_17 : decode cX9_steps 17 = .ok (.goto 5, 3) := by decide +kernel
theorem dX9_steps_20 : decode cX9_steps 20 = .ok (.bipush (-2), 2) := by decide +kernel
theorem dX9_steps_22 : decode cX9_steps 22 = .ok (.ireturn, 1) := by decide +kernel
theorem dX9_why_0 : decode cX9_why 0 = .ok (.aload_n 0, 1) := by decide +kernel
theorem dX9_why_1 : decode cX9_why 1 = .ok (.getfield 42, 3) := by decide +kernel
theorem dX9_why_4 : decode cX9_why 4 = .ok (.getfield 141, 3) := by decide +kernel
theorem dX9_why_7 : decode cX9_why 7 = .ok (.ifCond .le 13, 3) := by decide +kernel
theorem dX9_why_10 : decode cX9_why 10 = .ok (.aload_n 0, 1) := by decide +kernel
theorem dX9_why_11 : decode cX9_why 11 = .ok (.getfield 45, 3) := by decide +kernel
theorem dX9_why_14 : decode cX9_why 14 = .ok (.getfield 171, 3) := by decide +kernel
theorem dX9_why_17 : decode cX9_why 17 = .ok (.goto 5, 3) := by decide +kernel
theorem dX9_why_20 : decode cX9_why 20 = .ok (.bipush (-2), 2) := by decide +kernel
theorem dX9_why_22 : decode cX9_why 22 = .ok (.ireturn, 1) := by decide +kernel
theorem dX9_acc_0 : decode cX9_acc 0 = .ok (.aload_n 0, 1) := by decide +kernel
theorem dX9_acc_1 : decode cX9_acc 1 = .ok (.getfield 42, 3) := by decide +kernel
theorem dX9_acc_4 : decode cX9_acc 4 = .ok (.getfield 141, 3) := by decide +kernel
theorem dX9_acc_7 : decode cX9_acc 7 = .ok (.ifCond .le 13, 3) := by decide +kernel
theorem dX9_acc_10 : decode cX9_acc 10 = .ok (.aload_n 0, 1) := by decide +kernel
theorem dX9_acc_11 : decode cX9_acc 11 = .ok (.getfield 45, 3) := by decide +kernel
theorem dX9_acc_14 : decode cX9_acc 14 = .ok (.getfield 174, 3) := by decide +kernel
theorem dX9_acc_17 : decode cX9_acc 17 = .ok (.goto 6, 3) := by decide +kernel
theorem dX9_acc_20 : decode cX9_acc 20 = .ok (.sipush (-20000), 3) := by decide +kernel
theorem dX9_acc_23 : decode cX9_acc 23 = .ok (.ireturn, 1) := by decide +kernel
theorem dX9_value_0 : decode cX9_value 0 = .ok (.aload_n 0, 1) := by decide +kernel
theorem dX9_value_1 : decode cX9_value 1 = .ok (.getfield 42, 3) := by decide +kernel
theorem dX9_value_4 : decode cX9_value 4 = .ok (.getfield 141, 3) := by decide +kernel
theorem dX9_value_7 : decode cX9_value 7 = .ok (.ifCond .le 26, 3) := by decide +kernel
theorem dX9_value_10 : decode cX9_value 10 = .ok (.aload_n 0, 1) := by decide +kernel
theorem dX9_value_11 : decode cX9_value 11 = .ok (.getfield 42, 3) := by decide +kernel
theorem dX9_value_14 : decode cX9_value 14 = .ok (.iload_n 1, 1) := by decide +kernel
theorem dX9_value_15 : decode cX9_value 15 = .ok (.invokevirtual 177, 3) := by decide +kernel
theorem dX9_value_18 : decode cX9_value 18 = .ok (.ifCond .eq 15, 3) := by decide +kernel
theorem dX9_value_21 : decode cX9_value 21 = .ok (.aload_n 0, 1) := by decide +kernel
theorem dX9_value_22 : decode cX9_value 22 = .ok (.getfield 45, 3) := by decide +kernel
theorem dX9_value_25 : decode cX9_value 25 = .ok (.getfield 180, 3) := by decide +kernel
theorem dX9_value_28 : decode cX9_value 28 = .ok (.iload_n 1, 1) := by decide +kernel
theorem dX9_value_29 : decode cX9_value 29 = .ok (.iaload, 1) := by decide +kernel
theorem dX9_value_30 : decode cX9_value 30 = .ok (.goto 6, 3) := by decide +kernel
theorem dX9_value_33 : decode cX9_value 33 = .ok (.sipush (-20000), 3) := by decide +kernel
theorem dX9_value_36 : decode cX9_value 36 = .ok (.ireturn, 1) := by decide +kernel
theorem dX9_done_0 : decode cX9_done 0 = .ok (.aload_n 0, 1) := by decide +kernel
theorem dX9_done_1 : decode cX9_done 1 = .ok (.getfield 42, 3) := by decide +kernel
theorem dX9_done_4 : decode cX9_done 4 = .ok (.getfield 141, 3) := by decide +kernel
theorem dX9_done_7 : decode cX9_done 7 = .ok (.ifCond .eq 16, 3) := by decide +kernel
theorem dX9_done_10 : decode cX9_done 10 = .ok (.iload_n 1, 1) := by decide +kernel
theorem dX9_done_11 : decode cX9_done 11 = .ok (.ifCond .lt 12, 3) := by decide +kernel
theorem dX9_done_14 : decode cX9_done 14 = .ok (.iload_n 2, 1) := by decide +kernel
theorem dX9_done_15 : decode cX9_done 15 = .ok (.ifCond .lt 8, 3) := by decide +kernel
theorem dX9_done_18 : decode cX9_done 18 = .ok (.iload_n 2, 1) := by decide +kernel
theorem dX9_done_19 : decode cX9_done 19 = .ok (.iconst 4, 1) := by decide +kernel
theorem dX9_done_20 : decode cX9_done 20 = .ok (.if_icmp .le 7, 3) := by decide +kernel
theorem dX9_done_23 : decode cX9_done 23 = .ok (.sipush (-20002), 3) := by decide +kernel
theorem dX9_done_26 : decode cX9_done 26 = .ok (.ireturn, 1) := by decide +kernel
theorem dX9_done_27 : decode cX9_done 27 = .ok (.iload_n 1, 1) := by decide +kernel
theorem dX9_done_28 : decode cX9_done 28 = .ok (.aload_n 0, 1) := by decide +kernel
theorem dX9_done_29 : decode cX9_done 29 = .ok (.getfield 45, 3) := by decide +kernel
theorem dX9_done_32 : decode cX9_done 32 = .ok (.getfield 168, 3) := by decide +kernel
theorem dX9_done_35 : decode cX9_done 35 = .ok (.if_icmp .lt 7, 3) := by decide +kernel
theorem dX9_done_38 : decode cX9_done 38 = .ok (.sipush (-20001), 3) := by decide +kernel
theorem dX9_done_41 : decode cX9_done 41 = .ok (.ireturn, 1) := by decide +kernel
theorem dX9_done_42 : decode cX9_done 42 = .ok (.iload_n 2, 1) := by decide +kernel
theorem dX9_done_43 : decode cX9_done 43 = .ok (.tableswitch 96 0 3 #[29, 39, 49, 63], 29) := by decide +kernel
theorem dX9_done_72 : decode cX9_done 72 = .ok (.aload_n 0, 1) := by decide +kernel
theorem dX9_done_73 : decode cX9_done 73 = .ok (.getfield 45, 3) := by decide +kernel
theorem dX9_done_76 : decode cX9_done 76 = .ok (.getfield 183, 3) := by decide +kernel
theorem dX9_done_79 : decode cX9_done 79 = .ok (.iload_n 1, 1) := by decide +kernel
theorem dX9_done_80 : decode cX9_done 80 = .ok (.iaload, 1) := by decide +kernel
theorem dX9_done_81 : decode cX9_done 81 = .ok (.ireturn, 1) := by decide +kernel
theorem dX9_done_82 : decode cX9_done 82 = .ok (.aload_n 0, 1) := by decide +kernel
theorem dX9_done_83 : decode cX9_done 83 = .ok (.getfield 45, 3) := by decide +kernel
theorem dX9_done_86 : decode cX9_done 86 = .ok (.getfield 186, 3) := by decide +kernel
theorem dX9_done_89 : decode cX9_done 89 = .ok (.iload_n 1, 1) := by decide +kernel
theorem dX9_done_90 : decode cX9_done 90 = .ok (.iaload, 1) := by decide +kernel
theorem dX9_done_91 : decode cX9_done 91 = .ok (.ireturn, 1) := by decide +kernel
theorem dX9_done_92 : decode cX9_done 92 = .ok (.aload_n 0, 1) := by decide +kernel
theorem dX9_done_93 : decode cX9_done 93 = .ok (.aload_n 0, 1) := by decide +kernel
theorem dX9_done_94 : decode cX9_done 94 = .ok (.getfield 45, 3) := by decide +kernel
theorem dX9_done_97 : decode cX9_done 97 = .ok (.getfield 189, 3) := by decide +kernel
theorem dX9_done_100 : decode cX9_done 100 = .ok (.iload_n 1, 1) := by decide +kernel
theorem dX9_done_101 : decode cX9_done 101 = .ok (.iaload, 1) := by decide +kernel
theorem dX9_done_102 : decode cX9_done 102 = .ok (.invokevirtual 192, 3) := by decide +kernel
theorem dX9_done_105 : decode cX9_done 105 = .ok (.ireturn, 1) := by decide +kernel
theorem dX9_done_106 : decode cX9_done 106 = .ok (.aload_n 0, 1) := by decide +kernel
theorem dX9_done_107 : decode cX9_done 107 = .ok (.getfield 45, 3) := by decide +kernel
theorem dX9_done_110 : decode cX9_done 110 = .ok (.getfield 186, 3) := by decide +kernel
theorem dX9_done_113 : decode cX9_done 113 = .ok (.iload_n 1, 1) := by decide +kernel
theorem dX9_done_114 : decode cX9_done 114 = .ok (.iaload, 1) := by decide +kernel
theorem dX9_done_115 : decode cX9_done 115 = .ok (.iconst (-1), 1) := by decide +kernel
theorem dX9_done_116 : decode cX9_done 116 = .ok (.if_icmp .ne 7, 3) := by decide +kernel
theorem dX9_done_119 : decode cX9_done 119 = .ok (.iconst (-1), 1) := by decide +kernel
theorem dX9_done_120 : decode cX9_done 120 = .ok (.goto 18, 3) := by decide +kernel
theorem dX9_done_123 : decode cX9_done 123 = .ok (.aload_n 0, 1) := by decide +kernel
theorem dX9_done_124 : decode cX9_done 124 = .ok (.aload_n 0, 1) := by decide +kernel
theorem dX9_done_125 : decode cX9_done 125 = .ok (.getfield 45, 3) := by decide +kernel
theorem dX9_done_128 : decode cX9_done 128 = .ok (.getfield 189, 3) := by decide +kernel
theorem dX9_done_131 : decode cX9_done 131 = .ok (.iload_n 1, 1) := by decide +kernel
theorem dX9_done_132 : decode cX9_done 132 = .ok (.iaload, 1) := by decide +kernel
theorem dX9_done_133 : decode cX9_done 133 = .ok (.iconst 1, 1) := by decide +kernel
theorem dX9_done_134 : decode cX9_done 134 = .ok (.iadd, 1) := by decide +kernel
theorem dX9_done_135 : decode cX9_done 135 = .ok (.invokevirtual 192, 3) := by decide +kernel
theorem dX9_done_138 : decode cX9_done 138 = .ok (.ireturn, 1) := by decide +kernel
theorem dX9_done_139 : decode cX9_done 139 = .ok (.aload_n 0, 1) := by decide +kernel
theorem dX9_done_140 : decode cX9_done 140 = .ok (.getfield 45, 3) := by decide +kernel
theorem dX9_done_143 : decode cX9_done 143 = .ok (.getfield 195, 3) := by decide +kernel
theorem dX9_done_146 : decode cX9_done 146 = .ok (.iload_n 1, 1) := by decide +kernel
theorem dX9_done_147 : decode cX9_done 147 = .ok (.iaload, 1) := by decide +kernel
theorem dX9_done_148 : decode cX9_done 148 = .ok (.ireturn, 1) := by decide +kernel
theorem dX9_time_0 : decode cX9_time 0 = .ok (.aload_n 0, 1) := by decide +kernel
theorem dX9_time_1 : decode cX9_time 1 = .ok (.getfield 42, 3) := by decide +kernel
theorem dX9_time_4 : decode cX9_time 4 = .ok (.getfield 141, 3) := by decide +kernel
theorem dX9_time_7 : decode cX9_time 7 = .ok (.ifCond .le 10, 3) := by decide +kernel
theorem dX9_time_10 : decode cX9_time 10 = .ok (.aload_n 0, 1) := by decide +kernel
theorem dX9_time_11 : decode cX9_time 11 = .ok (.invokevirtual 198, 3) := by decide +kernel
theorem dX9_time_14 : decode cX9_time 14 = .ok (.goto 5, 3) := by decide +kernel
theorem dX9_time_17 : decode cX9_time 17 = .ok (.bipush (-2), 2) := by decide +kernel
theorem dX9_time_19 : decode cX9_time 19 = .ok (.ireturn, 1) := by decide +kernel
theorem dX9_rounds_0 : decode cX9_rounds 0 = .ok (.aload_n 0, 1) := by decide +kernel
theorem dX9_rounds_1 : decode cX9_rounds 1 = .ok (.getfield 42, 3) := by decide +kernel
theorem dX9_rounds_4 : decode cX9_rounds 4 = .ok (.getfield 141, 3) := by decide +kernel
theorem dX9_rounds_7 : decode cX9_rounds 7 = .ok (.ifCond .le 28, 3) := by decide +kernel
theorem dX9_rounds_10 : decode cX9_rounds 10 = .ok (.aload_n 0, 1) := by decide +kernel
theorem dX9_rounds_11 : decode cX9_rounds 11 = .ok (.getfield 42, 3) := by decide +kernel
theorem dX9_rounds_14 : decode cX9_rounds 14 = .ok (.getfield 126, 3) := by decide +kernel
theorem dX9_rounds_17 : decode cX9_rounds 17 = .ok (.ifCond .le 18, 3) := by decide +kernel
theorem dX9_rounds_20 : decode cX9_rounds 20 = .ok (.aload_n 0, 1) := by decide +kernel
theorem dX9_rounds_21 : decode cX9_rounds 21 = .ok (.invokevirtual 198, 3) := by decide +kernel
theorem dX9_rounds_24 : decode cX9_rounds 24 = .ok (.aload_n 0, 1) := by decide +kernel
theorem dX9_rounds_25 : decode cX9_rounds 25 = .ok (.getfield 42, 3) := by decide +kernel
theorem dX9_rounds_28 : decode cX9_rounds 28 = .ok (.getfield 126, 3) := by decide +kernel
theorem dX9_rounds_31 : decode cX9_rounds 31 = .ok (.idiv, 1) := by decide +kernel
theorem dX9_rounds_32 : decode cX9_rounds 32 = .ok (.goto 5, 3) := by decide +kernel
theorem dX9_rounds_35 : decode cX9_rounds 35 = .ok (.bipush (-2), 2) := by decide +kernel
theorem dX9_rounds_37 : decode cX9_rounds 37 = .ok (.ireturn, 1) := by decide +kernel
theorem dX9_lost_0 : decode cX9_lost 0 = .ok (.aload_n 0, 1) := by decide +kernel
theorem dX9_lost_1 : decode cX9_lost 1 = .ok (.getfield 42, 3) := by decide +kernel
theorem dX9_lost_4 : decode cX9_lost 4 = .ok (.getfield 141, 3) := by decide +kernel
theorem dX9_lost_7 : decode cX9_lost 7 = .ok (.ifCond .le 10, 3) := by decide +kernel
theorem dX9_lost_10 : decode cX9_lost 10 = .ok (.aload_n 0, 1) := by decide +kernel
theorem dX9_lost_11 : decode cX9_lost 11 = .ok (.invokevirtual 201, 3) := by decide +kernel
theorem dX9_lost_14 : decode cX9_lost 14 = .ok (.goto 5, 3) := by decide +kernel
theorem dX9_lost_17 : decode cX9_lost 17 = .ok (.bipush (-2), 2) := by decide +kernel
theorem dX9_lost_19 : decode cX9_lost 19 = .ok (.ireturn, 1) := by decide +kernel
theorem dX9_lostFor_0 : decode cX9_lostFor 0 = .ok (.aload_n 0, 1) := by decide +kernel
theorem dX9_lostFor_1 : decode cX9_lostFor 1 = .ok (.getfield 42, 3) := by decide +kernel
theorem dX9_lostFor_4 : decode cX9_lostFor 4 = .ok (.getfield 141, 3) := by decide +kernel
theorem dX9_lostFor_7 : decode cX9_lostFor 7 = .ok (.ifCond .eq 14, 3) := by decide +kernel
theorem dX9_lostFor_10 : decode cX9_lostFor 10 = .ok (.aload_n 0, 1) := by decide +kernel
theorem dX9_lostFor_11 : decode cX9_lostFor 11 = .ok (.getfield 42, 3) := by decide +kernel
theorem dX9_lostFor_14 : decode cX9_lostFor 14 = .ok (.iload_n 1, 1) := by decide +kernel
theorem dX9_lostFor_15 : decode cX9_lostFor 15 = .ok (.invokevirtual 148, 3) := by decide +kernel
theorem dX9_lostFor_18 : decode cX9_lostFor 18 = .ok (.ifCond .ne 6, 3) := by decide +kernel
theorem dX9_lostFor_21 : decode cX9_lostFor 21 = .ok (.bipush (-2), 2) := by decide +kernel
theorem dX9_lostFor_23 : decode cX9_lostFor 23 = .ok (.ireturn, 1) := by decide +kernel
theorem dX9_lostFor_24 : decode cX9_lostFor 24 = .ok (.aload_n 0, 1) := by decide +kernel
theorem dX9_lostFor_25 : decode cX9_lostFor 25 = .ok (.invokevirtual 198, 3) := by decide +kernel
theorem dX9_lostFor_28 : decode cX9_lostFor 28 = .ok (.pop, 1) := by decide +kernel
theorem dX9_lostFor_29 : decode cX9_lostFor 29 = .ok (.aload_n 0, 1) := by decide +kernel
theorem dX9_lostFor_30 : decode cX9_lostFor 30 = .ok (.getfield 49, 3) := by decide +kernel
theorem dX9_lostFor_33 : decode cX9_lostFor 33 = .ok (.iload_n 1, 1) := by decide +kernel
theorem dX9_lostFor_34 : decode cX9_lostFor 34 = .ok (.invokevirtual 204, 3) := by decide +kernel
theorem dX9_lostFor_37 : decode cX9_lostFor 37 = .ok (.ireturn, 1) := by decide +kernel
theorem dX9_worst_0 : decode cX9_worst 0 = .ok (.aload_n 0, 1) := by decide +kernel
theorem dX9_worst_1 : decode cX9_worst 1 = .ok (.getfield 42, 3) := by decide +kernel
theorem dX9_worst_4 : decode cX9_worst 4 = .ok (.getfield 141, 3) := by decide +kernel
theorem dX9_worst_7 : decode cX9_worst 7 = .ok (.ifCond .ne 6, 3) := by decide +kernel
theorem dX9_worst_10 : decode cX9_worst 10 = .ok (.bipush (-2), 2) := by decide +kernel
theorem dX9_worst_12 : decode cX9_worst 12 = .ok (.ireturn, 1) := by decide +kernel
theorem dX9_worst_13 : decode cX9_worst 13 = .ok (.aload_n 0, 1) := by decide +kernel
theorem dX9_worst_14 : decode cX9_worst 14 = .ok (.invokevirtual 198, 3) := by decide +kernel
theorem dX9_worst_17 : decode cX9_worst 17 = .ok (.pop, 1) := by decide +kernel
theorem dX9_worst_18 : decode cX9_worst 18 = .ok (.iconst (-1), 1) := by decide +kernel
theorem dX9_worst_19 : decode cX9_worst 19 = .ok (.istore_n 1, 1) := by decide +kernel
theorem dX9_worst_20 : decode cX9_worst 20 = .ok (.iconst 0, 1) := by decide +kernel
theorem dX9_worst_21 : decode cX9_worst 21 = .ok (.istore_n 2, 1) := by decide +kernel
theorem dX9_worst_22 : decode cX9_worst 22 = .ok (.iconst 0, 1) := by decide +kernel
theorem dX9_worst_23 : decode cX9_worst 23 = .ok (.istore_n 3, 1) := by decide +kernel
theorem dX9_worst_24 : decode cX9_worst 24 = .ok (.iload_n 3, 1) := by decide +kernel
theorem dX9_worst_25 : decode cX9_worst 25 = .ok (.aload_n 0, 1) := by decide +kernel
theorem dX9_worst_26 : decode cX9_worst 26 = .ok (.getfield 42, 3) := by decide +kernel
theorem dX9_worst_29 : decode cX9_worst 29 = .ok (.getfield 207, 3) := by decide +kernel
theorem dX9_worst_32 : decode cX9_worst 32 = .ok (.if_icmp .ge 30, 3) := by decide +kernel
theorem dX9_worst_35 : decode cX9_worst 35 = .ok (.aload_n 0, 1) := by decide +kernel
theorem dX9_worst_36 : decode cX9_worst 36 = .ok (.getfield 49, 3) := by decide +kernel
theorem dX9_worst_39 : decode cX9_worst 39 = .ok (.iload_n 3, 1) := by decide +kernel
theorem dX9_worst_40 : decode cX9_worst 40 = .ok (.invokevirtual 204, 3) := by decide +kernel
theorem dX9_worst_43 : decode cX9_worst 43 = .ok (.istore 4, 2) := by decide +kernel
theorem dX9_worst_45 : decode cX9_worst 45 = .ok (.iload 4, 2) := by decide +kernel
theorem dX9_worst_47 : decode cX9_worst 47 = .ok (.iload_n 2, 1) := by decide +kernel
theorem dX9_worst_48 : decode cX9_worst 48 = .ok (.if_icmp .le 8, 3) := by decide +kernel
theorem dX9_worst_51 : decode cX9_worst 51 = .ok (.iload_n 3, 1) := by decide +kernel
theorem dX9_worst_52 : decode cX9_worst 52 = .ok (.istore_n 1, 1) := by decide +kernel
theorem dX9_worst_53 : decode cX9_worst 53 = .ok (.iload 4, 2) := by decide +kernel
theorem dX9_worst_55 : decode cX9_worst 55 = .ok (.istore_n 2, 1) := by decide +kernel
theorem dX9_worst_56 : decode cX9_worst 56 = .ok (.iinc 3 1, 3) := by decide +kernel
theorem dX9_worst_59 : decode cX9_worst 59 = .ok (.goto (-35), 3) := by decide +kernel
theorem dX9_worst_62 : decode cX9_worst 62 = .ok (.iload_n 1, 1) := by decide +kernel
theorem dX9_worst_63 : decode cX9_worst 63 = .ok (.ireturn, 1) := by decide +kernel
theorem dX9_met_0 : decode cX9_met 0 = .ok (.aload_n 0, 1) := by decide +kernel
theorem dX9_met_1 : decode cX9_met 1 = .ok (.getfield 42, 3) := by decide +kernel
theorem dX9_met_4 : decode cX9_met 4 = .ok (.getfield 141, 3) := by decide +kernel
theorem dX9_met_7 : decode cX9_met 7 = .ok (.ifCond .le 25, 3) := by decide +kernel
theorem dX9_met_10 : decode cX9_met 10 = .ok (.aload_n 0, 1) := by decide +kernel
theorem dX9_met_11 : decode cX9_met 11 = .ok (.getfield 42, 3) := by decide +kernel
theorem dX9_met_14 : decode cX9_met 14 = .ok (.iload_n 1, 1) := by decide +kernel
theorem dX9_met_15 : decode cX9_met 15 = .ok (.invokevirtual 148, 3) := by decide +kernel
theorem dX9_met_18 : decode cX9_met 18 = .ok (.ifCond .eq 14, 3) := by decide +kernel
theorem dX9_met_21 : decode cX9_met 21 = .ok (.aload_n 0, 1) := by decide +kernel
theorem dX9_met_22 : decode cX9_met 22 = .ok (.getfield 45, 3) := by decide +kernel
theorem dX9_met_25 : decode cX9_met 25 = .ok (.iload_n 1, 1) := by decide +kernel
theorem dX9_met_26 : decode cX9_met 26 = .ok (.invokevirtual 210, 3) := by decide +kernel
theorem dX9_met_29 : decode cX9_met 29 = .ok (.goto 5, 3) := by decide +kernel
theorem dX9_met_32 : decode cX9_met 32 = .ok (.bipush (-2), 2) := by decide +kernel
theorem dX9_met_34 : decode cX9_met 34 = .ok (.ireturn, 1) := by decide +kernel
theorem dX9_bound_0 : decode cX9_bound 0 = .ok (.aload_n 0, 1) := by decide +kernel
theorem dX9_bound_1 : decode cX9_bound 1 = .ok (.getfield 42, 3) := by decide +kernel
theorem dX9_bound_4 : decode cX9_bound 4 = .ok (.getfield 141, 3) := by decide +kernel
theorem dX9_bound_7 : decode cX9_bound 7 = .ok (.ifCond .ne 6, 3) := by decide +kernel
theorem dX9_bound_10 : decode cX9_bound 10 = .ok (.bipush (-2), 2) := by decide +kernel
theorem dX9_bound_12 : decode cX9_bound 12 = .ok (.ireturn, 1) := by decide +kernel
theorem dX9_bound_13 : decode cX9_bound 13 = .ok (.aload_n 0, 1) := by decide +kernel
theorem dX9_bound_14 : decode cX9_bound 14 = .ok (.invokevirtual 198, 3) := by decide +kernel
theorem dX9_bound_17 : decode cX9_bound 17 = .ok (.istore_n 1, 1) := by decide +kernel
theorem dX9_bound_18 : decode cX9_bound 18 = .ok (.iload_n 1, 1) := by decide +kernel
theorem dX9_bound_19 : decode cX9_bound 19 = .ok (.aload_n 0, 1) := by decide +kernel
theorem dX9_bound_20 : decode cX9_bound 20 = .ok (.getfield 49, 3) := by decide +kernel
theorem dX9_bound_23 : decode cX9_bound 23 = .ok (.invokevirtual 213, 3) := by decide +kernel
theorem dX9_bound_26 : decode cX9_bound 26 = .ok (.isub, 1) := by decide +kernel
theorem dX9_bound_27 : decode cX9_bound 27 = .ok (.ireturn, 1) := by decide +kernel
theorem dX9_waiting_0 : decode cX9_waiting 0 = .ok (.aload_n 0, 1) := by decide +kernel
theorem dX9_waiting_1 : decode cX9_waiting 1 = .ok (.getfield 42, 3) := by decide +kernel
theorem dX9_waiting_4 : decode cX9_waiting 4 = .ok (.getfield 141, 3) := by decide +kernel
theorem dX9_waiting_7 : decode cX9_waiting 7 = .ok (.ifCond .eq 13, 3) := by decide +kernel
theorem dX9_waiting_10 : decode cX9_waiting 10 = .ok (.iload_n 1, 1) := by decide +kernel
theorem dX9_waiting_11 : decode cX9_waiting 11 = .ok (.ifCond .lt 9, 3) := by decide +kernel
theorem dX9_waiting_14 : decode cX9_waiting 14 = .ok (.iload_n 1, 1) := by decide +kernel
theorem dX9_waiting_15 : decode cX9_waiting 15 = .ok (.bipush 9, 2) := by decide +kernel
theorem dX9_waiting_17 : decode cX9_waiting 17 = .ok (.if_icmp .le 6, 3) := by decide +kernel
theorem dX9_waiting_20 : decode cX9_waiting 20 = .ok (.bipush (-2), 2) := by decide +kernel
theorem dX9_waiting_22 : decode cX9_waiting 22 = .ok (.ireturn, 1) := by decide +kernel
theorem dX9_waiting_23 : decode cX9_waiting 23 = .ok (.aload_n 0, 1) := by decide +kernel
theorem dX9_waiting_24 : decode cX9_waiting 24 = .ok (.getfield 49, 3) := by decide +kernel
theorem dX9_waiting_27 : decode cX9_waiting 27 = .ok (.aload_n 0, 1) := by decide +kernel
theorem dX9_waiting_28 : decode cX9_waiting 28 = .ok (.getfield 78, 3) := by decide +kernel
theorem dX9_waiting_31 : decode cX9_waiting 31 = .ok (.iload_n 1, 1) := by decide +kernel
theorem dX9_waiting_32 : decode cX9_waiting 32 = .ok (.aload_n 0, 1) := by decide +kernel
theorem dX9_waiting_33 : decode cX9_waiting 33 = .ok (.getfield 42, 3) := by decide +kernel
theorem dX9_waiting_36 : decode cX9_waiting 36 = .ok (.getfield 132, 3) := by decide +kernel
theorem dX9_waiting_39 : decode cX9_waiting 39 = .ok (.invokevirtual 216, 3) := by decide +kernel
theorem dX9_waiting_42 : decode cX9_waiting 42 = .ok (.ireturn, 1) := by decide +kernel
theorem dX9_quicker_0 : decode cX9_quicker 0 = .ok (.aload_n 0, 1) := by decide +kernel
theorem dX9_quicker_1 : decode cX9_quicker 1 = .ok (.getfield 42, 3) := by decide +kernel
theorem dX9_quicker_4 : decode cX9_quicker 4 = .ok (.getfield 141, 3) := by decide +kernel
theorem dX9_quicker_7 : decode cX9_quicker 7 = .ok (.ifCond .eq 17, 3) := by decide +kernel
theorem dX9_quicker_10 : decode cX9_quicker 10 = .ok (.iload_n 1, 1) := by decide +kernel
theorem dX9_quicker_11 : decode cX9_quicker 11 = .ok (.aload_n 0, 1) := by decide +kernel
theorem dX9_quicker_12 : decode cX9_quicker 12 = .ok (.getfield 42, 3) := by decide +kernel
theorem dX9_quicker_15 : decode cX9_quicker 15 = .ok (.getfield 126, 3) := by decide +kernel
theorem dX9_quicker_18 : decode cX9_quicker 18 = .ok (.invokestatic 220, 3) := by decide +kernel
theorem dX9_quicker_21 : decode cX9_quicker 21 = .ok (.ifCond .ne 6, 3) := by decide +kernel
theorem dX9_quicker_24 : decode cX9_quicker 24 = .ok (.bipush (-2), 2) := by decide +kernel
theorem dX9_quicker_26 : decode cX9_quicker 26 = .ok (.ireturn, 1) := by decide +kernel
theorem dX9_quicker_27 : decode cX9_quicker 27 = .ok (.aload_n 0, 1) := by decide +kernel
theorem dX9_quicker_28 : decode cX9_quicker 28 = .ok (.getfield 49, 3) := by decide +kernel
theorem dX9_quicker_31 : decode cX9_quicker 31 = .ok (.aload_n 0, 1) := by decide +kernel
theorem dX9_quicker_32 : decode cX9_quicker 32 = .ok (.getfield 78, 3) := by decide +kernel
theorem dX9_quicker_35 : decode cX9_quicker 35 = .ok (.aload_n 0, 1) := by decide +kernel
theorem dX9_quicker_36 : decode cX9_quicker 36 = .ok (.getfield 42, 3) := by decide +kernel
theorem dX9_quicker_39 : decode cX9_quicker 39 = .ok (.getfield 129, 3) := by decide +kernel
theorem dX9_quicker_42 : decode cX9_quicker 42 = .ok (.iload_n 1, 1) := by decide +kernel
theorem dX9_quicker_43 : decode cX9_quicker 43 = .ok (.invokevirtual 216, 3) := by decide +kernel
theorem dX9_quicker_46 : decode cX9_quicker 46 = .ok (.ireturn, 1) := by decide +kernel
theorem dX9_moved_0 : decode cX9_moved 0 = .ok (.aload_n 0, 1) := by decide +kernel
theorem dX9_moved_1 : decode cX9_moved 1 = .ok (.iload_n 1, 1) := by decide +kernel
theorem dX9_moved_2 : decode cX9_moved 2 = .ok (.iload_n 2, 1) := by decide +kernel
theorem dX9_moved_3 : decode cX9_moved 3 = .ok (.invokevirtual 224, 3) := by decide +kernel
theorem dX9_moved_6 : decode cX9_moved 6 = .ok (.istore_n 3, 1) := by decide +kernel
theorem dX9_moved_7 : decode cX9_moved 7 = .ok (.iload_n 3, 1) := by decide +kernel
theorem dX9_moved_8 : decode cX9_moved 8 = .ok (.ifCond .eq 7, 3) := by decide +kernel
theorem dX9_moved_11 : decode cX9_moved 11 = .ok (.iload_n 3, 1) := by decide +kernel
theorem dX9_moved_12 : decode cX9_moved 12 = .ok (.goto 9, 3) := by decide +kernel
theorem dX9_moved_15 : decode cX9_moved 15 = .ok (.aload_n 0, 1) := by decide +kernel
theorem dX9_moved_16 : decode cX9_moved 16 = .ok (.iload_n 1, 1) := by decide +kernel
theorem dX9_moved_17 : decode cX9_moved 17 = .ok (.iload_n 2, 1) := by decide +kernel
theorem dX9_moved_18 : decode cX9_moved 18 = .ok (.invokevirtual 228, 3) := by decide +kernel
theorem dX9_moved_21 : decode cX9_moved 21 = .ok (.ireturn, 1) := by decide +kernel
theorem dX9_swapped_0 : decode cX9_swapped 0 = .ok (.aload_n 0, 1) := by decide +kernel
theorem dX9_swapped_1 : decode cX9_swapped 1 = .ok (.iload_n 1, 1) := by decide +kernel
theorem dX9_swapped_2 : decode cX9_swapped 2 = .ok (.iload_n 2, 1) := by decide +kernel
theorem dX9_swapped_3 : decode cX9_swapped 3 = .ok (.invokevirtual 231, 3) := by decide +kernel
theorem dX9_swapped_6 : decode cX9_swapped 6 = .ok (.istore_n 3, 1) := by decide +kernel
theorem dX9_swapped_7 : decode cX9_swapped 7 = .ok (.iload_n 3, 1) := by decide +kernel
theorem dX9_swapped_8 : decode cX9_swapped 8 = .ok (.ifCond .eq 7, 3) := by decide +kernel
theorem dX9_swapped_11 : decode cX9_swapped 11 = .ok (.iload_n 3, 1) := by decide +kernel
theorem dX9_swapped_12 : decode cX9_swapped 12 = .ok (.goto 9, 3) := by decide +kernel
theorem dX9_swapped_15 : decode cX9_swapped 15 = .ok (.aload_n 0, 1) := by decide +kernel
theorem dX9_swapped_16 : decode cX9_swapped 16 = .ok (.iload_n 1, 1) := by decide +kernel
theorem dX9_swapped_17 : decode cX9_swapped 17 = .ok (.iload_n 2, 1) := by decide +kernel
theorem dX9_swapped_18 : decode cX9_swapped 18 = .ok (.invokevirtual 234, 3) := by decide +kernel
theorem dX9_swapped_21 : decode cX9_swapped 21 = .ok (.ireturn, 1) := by decide +kernel
theorem dX9_best_0 : decode cX9_best 0 = .ok (.aload_n 0, 1) := by decide +kernel
theorem dX9_best_1 : decode cX9_best 1 = .ok (.getfield 42, 3) := by decide +kernel
theorem dX9_best_4 : decode cX9_best 4 = .ok (.getfield 141, 3) := by decide +kernel
theorem dX9_best_7 : decode cX9_best 7 = .ok (.ifCond .ne 6, 3) := by decide +kernel
theorem dX9_best_10 : decode cX9_best 10 = .ok (.bipush (-2), 2) := by decide +kernel
theorem dX9_best_12 : decode cX9_best 12 = .ok (.ireturn, 1) := by decide +kernel
theorem dX9_best_13 : decode cX9_best 13 = .ok (.aload_n 0, 1) := by decide +kernel
theorem dX9_best_14 : decode cX9_best 14 = .ok (.invokevirtual 198, 3) := by decide +kernel
theorem dX9_best_17 : decode cX9_best 17 = .ok (.istore_n 1, 1) := by decide +kernel
theorem dX9_best_18 : decode cX9_best 18 = .ok (.iconst (-1), 1) := by decide +kernel
theorem dX9_best_19 : decode cX9_best 19 = .ok (.istore_n 2, 1) := by decide +kernel
theorem dX9_best_20 : decode cX9_best 20 = .ok (.iconst 0, 1) := by decide +kernel
theorem dX9_best_21 : decode cX9_best 21 = .ok (.istore_n 3, 1) := by decide +kernel
theorem dX9_best_22 : decode cX9_best 22 = .ok (.iload_n 3, 1) := by decide +kernel
theorem dX9_best_23 : decode cX9_best 23 = .ok (.aload_n 0, 1) := by decide +kernel
theorem dX9_best_24 : decode cX9_best 24 = .ok (.getfield 42, 3) := by decide +kernel
theorem dX9_best_27 : decode cX9_best 27 = .ok (.getfield 207, 3) := by decide +kernel
theorem dX9_best_30 : decode cX9_best 30 = .ok (.if_icmp .ge 69, 3) := by decide +kernel
theorem dX9_best_33 : decode cX9_best 33 = .ok (.iconst 0, 1) := by decide +kernel
theorem dX9_best_34 : decode cX9_best 34 = .ok (.istore 4, 2) := by decide +kernel
theorem dX9_best_36 : decode cX9_best 36 = .ok (.iload 4, 2) := by decide +kernel
theorem dX9_best_38 : decode cX9_best 38 = .ok (.aload_n 0, 1) := by decide +kernel
theorem dX9_best_39 : decode cX9_best 39 = .ok (.getfield 42, 3) := by decide +kernel
theorem dX9_best_42 : decode cX9_best 42 = .ok (.invokevirtual 237, 3) := by decide +kernel
theorem dX9_best_45 : decode cX9_best 45 = .ok (.if_icmp .ge 48, 3) := by decide +kernel
theorem dX9_best_48 : decode cX9_best 48 = .ok (.aload_n 0, 1) := by decide +kernel
theorem dX9_best_49 : decode cX9_best 49 = .ok (.iload_n 3, 1) := by decide +kernel
theorem dX9_best_50 : decode cX9_best 50 = .ok (.iload 4, 2) := by decide +kernel
theorem dX9_best_52 : decode cX9_best 52 = .ok (.invokevirtual 240, 3) := by decide +kernel
theorem dX9_best_55 : decode cX9_best 55 = .ok (.ifCond .ne 6, 3) := by decide +kernel
theorem dX9_best_58 : decode cX9_best 58 = .ok (.goto 29, 3) := by decide +kernel
theorem dX9_best_61 : decode cX9_best 61 = .ok (.aload_n 0, 1) := by decide +kernel
theorem dX9_best_62 : decode cX9_best 62 = .ok (.iload_n 3, 1) := by decide +kernel
theorem dX9_best_63 : decode cX9_best 63 = .ok (.iload 4, 2) := by decide +kernel
theorem dX9_best_65 : decode cX9_best 65 = .ok (.invokevirtual 228, 3) := by decide +kernel
theorem dX9_best_68 : decode cX9_best 68 = .ok (.istore 5, 2) := by decide +kernel
theorem dX9_best_70 : decode cX9_best 70 = .ok (.iload 5, 2) := by decide +kernel
theorem dX9_best_72 : decode cX9_best 72 = .ok (.iload_n 1, 1) := by decide +kernel
theorem dX9_best_73 : decode cX9_best 73 = .ok (.if_icmp .ge 14, 3) := by decide +kernel
theorem dX9_best_76 : decode cX9_best 76 = .ok (.iload 5, 2) := by decide +kernel
theorem dX9_best_78 : decode cX9_best 78 = .ok (.istore_n 1, 1) := by decide +kernel
theorem dX9_best_79 : decode cX9_best 79 = .ok (.bipush 100, 2) := by decide +kernel
theorem dX9_best_81 : decode cX9_best 81 = .ok (.iload_n 3, 1) := by decide +kernel
theorem dX9_best_82 : decode cX9_best 82 = .ok (.imul, 1) := by decide +kernel
theorem dX9_best_83 : decode cX9_best 83 = .ok (.iload 4, 2) := by decide +kernel
theorem dX9_best_85 : decode cX9_best 85 = .ok (.iadd, 1) := by decide +kernel
theorem dX9_best_86 : decode cX9_best 86 = .ok (.istore_n 2, 1) := by decide +kernel
theorem dX9_best_87 : decode cX9_best 87 = .ok (.iinc 4 1, 3) := by decide +kernel
theorem dX9_best_90 : decode cX9_best 90 = .ok (.goto (-54), 3) := by decide +kernel
theorem dX9_best_93 : decode cX9_best 93 = .ok (.iinc 3 1, 3) := by decide +kernel
theorem dX9_best_96 : decode cX9_best 96 = .ok (.goto (-74), 3) := by decide +kernel
theorem dX9_best_99 : decode cX9_best 99 = .ok (.iload_n 2, 1) := by decide +kernel
theorem dX9_best_100 : decode cX9_best 100 = .ok (.ireturn, 1) := by decide +kernel
theorem dX9_pair_0 : decode cX9_pair 0 = .ok (.aload_n 0, 1) := by decide +kernel
theorem dX9_pair_1 : decode cX9_pair 1 = .ok (.getfield 42, 3) := by decide +kernel
theorem dX9_pair_4 : decode cX9_pair 4 = .ok (.getfield 141, 3) := by decide +kernel
theorem dX9_pair_7 : decode cX9_pair 7 = .ok (.ifCond .ne 6, 3) := by decide +kernel
theorem dX9_pair_10 : decode cX9_pair 10 = .ok (.bipush (-2), 2) := by decide +kernel
theorem dX9_pair_12 : decode cX9_pair 12 = .ok (.ireturn, 1) := by decide +kernel
theorem dX9_pair_13 : decode cX9_pair 13 = .ok (.aload_n 0, 1) := by decide +kernel
theorem dX9_pair_14 : decode cX9_pair 14 = .ok (.invokevirtual 198, 3) := by decide +kernel
theorem dX9_pair_17 : decode cX9_pair 17 = .ok (.istore_n 1, 1) := by decide +kernel
theorem dX9_pair_18 : decode cX9_pair 18 = .ok (.iconst (-1), 1) := by decide +kernel
theorem dX9_pair_19 : decode cX9_pair 19 = .ok (.istore_n 2, 1) := by decide +kernel
theorem dX9_pair_20 : decode cX9_pair 20 = .ok (.iconst 0, 1) := by decide +kernel
theorem dX9_pair_21 : decode cX9_pair 21 = .ok (.istore_n 3, 1) := by decide +kernel
theorem dX9_pair_22 : decode cX9_pair 22 = .ok (.iload_n 3, 1) := by decide +kernel
theorem dX9_pair_23 : decode cX9_pair 23 = .ok (.aload_n 0, 1) := by decide +kernel
theorem dX9_pair_24 : decode cX9_pair 24 = .ok (.getfield 42, 3) := by decide +kernel
theorem dX9_pair_27 : decode cX9_pair 27 = .ok (.getfield 207, 3) := by decide +kernel
theorem dX9_pair_30 : decode cX9_pair 30 = .ok (.if_icmp .ge 84, 3) := by decide +kernel
theorem dX9_pair_33 : decode cX9_pair 33 = .ok (.iload_n 3, 1) := by decide +kernel
theorem dX9_pair_34 : decode cX9_pair 34 = .ok (.iconst 1, 1) := by decide +kernel
theorem dX9_pair_35 : decode cX9_pair 35 = .ok (.iadd, 1) := by decide +kernel
theorem dX9_pair_36 : decode cX9_pair 36 = .ok (.istore 4, 2) := by decide +kernel
theorem dX9_pair_38 : decode cX9_pair 38 = .ok (.iload 4, 2) := by decide +kernel
theorem dX9_pair_40 : decode cX9_pair 40 = .ok (.aload_n 0, 1) := by decide +kernel
theorem dX9_pair_41 : decode cX9_pair 41 = .ok (.getfield 42, 3) := by decide +kernel
theorem dX9_pair_44 : decode cX9_pair 44 = .ok (.getfield 207, 3) := by decide +kernel
theorem dX9_pair_47 : decode cX9_pair 47 = .ok (.if_icmp .ge 61, 3) := by decide +kernel
theorem dX9_pair_50 : decode cX9_pair 50 = .ok (.aload_n 0, 1) := by decide +kernel
theorem dX9_pair_51 : decode cX9_pair 51 = .ok (.getfield 42, 3) := by decide +kernel
theorem dX9_pair_54 : decode cX9_pair 54 = .ok (.iload_n 3, 1) := by decide +kernel
theorem dX9_pair_55 : decode cX9_pair 55 = .ok (.invokevirtual 155, 3) := by decide +kernel
theorem dX9_pair_58 : decode cX9_pair 58 = .ok (.ifCond .ne 44, 3) := by decide +kernel
theorem dX9_pair_61 : decode cX9_pair 61 = .ok (.aload_n 0, 1) := by decide +kernel
theorem dX9_pair_62 : decode cX9_pair 62 = .ok (.getfield 42, 3) := by decide +kernel
theorem dX9_pair_65 : decode cX9_pair 65 = .ok (.iload 4, 2) := by decide +kernel
theorem dX9_pair_67 : decode cX9_pair 67 = .ok (.invokevirtual 155, 3) := by decide +kernel
theorem dX9_pair_70 : decode cX9_pair 70 = .ok (.ifCond .eq 6, 3) := by decide +kernel
theorem dX9_pair_73 : decode cX9_pair 73 = .ok (.goto 29, 3) := by decide +kernel
theorem dX9_pair_76 : decode cX9_pair 76 = .ok (.aload_n 0, 1) := by decide +kernel
theorem dX9_pair_77 : decode cX9_pair 77 = .ok (.iload_n 3, 1) := by decide +kernel
theorem dX9_pair_78 : decode cX9_pair 78 = .ok (.iload 4, 2) := by decide +kernel
theorem dX9_pair_80 : decode cX9_pair 80 = .ok (.invokevirtual 234, 3) := by decide +kernel
theorem dX9_pair_83 : decode cX9_pair 83 = .ok (.istore 5, 2) := by decide +kernel
theorem dX9_pair_85 : decode cX9_pair 85 = .ok (.iload 5, 2) := by decide +kernel
theorem dX9_pair_87 : decode cX9_pair 87 = .ok (.iload_n 1, 1) := by decide +kernel
theorem dX9_pair_88 : decode cX9_pair 88 = .ok (.if_icmp .ge 14, 3) := by decide +kernel
theorem dX9_pair_91 : decode cX9_pair 91 = .ok (.iload 5, 2) := by decide +kernel
theorem dX9_pair_93 : decode cX9_pair 93 = .ok (.istore_n 1, 1) := by decide +kernel
theorem dX9_pair_94 : decode cX9_pair 94 = .ok (.bipush 100, 2) := by decide +kernel
theorem dX9_pair_96 : decode cX9_pair 96 = .ok (.iload_n 3, 1) := by decide +kernel
theorem dX9_pair_97 : decode cX9_pair 97 = .ok (.imul, 1) := by decide +kernel
theorem dX9_pair_98 : decode cX9_pair 98 = .ok (.iload 4, 2) := by decide +kernel
theorem dX9_pair_100 : decode cX9_pair 100 = .ok (.iadd, 1) := by decide +kernel
theorem dX9_pair_101 : decode cX9_pair 101 = .ok (.istore_n 2, 1) := by decide +kernel
theorem dX9_pair_102 : decode cX9_pair 102 = .ok (.iinc 4 1, 3) := by decide +kernel
theorem dX9_pair_105 : decode cX9_pair 105 = .ok (.goto (-67), 3) := by decide +kernel
theorem dX9_pair_108 : decode cX9_pair 108 = .ok (.iinc 3 1, 3) := by decide +kernel
theorem dX9_pair_111 : decode cX9_pair 111 = .ok (.goto (-89), 3) := by decide +kernel
theorem dX9_pair_114 : decode cX9_pair 114 = .ok (.iload_n 2, 1) := by decide +kernel
theorem dX9_pair_115 : decode cX9_pair 115 = .ok (.ireturn, 1) := by decide +kernel
theorem dX9_idle_0 : decode cX9_idle 0 = .ok (.aload_n 0, 1) := by decide +kernel
theorem dX9_idle_1 : decode cX9_idle 1 = .ok (.getfield 42, 3) := by decide +kernel
theorem dX9_idle_4 : decode cX9_idle 4 = .ok (.getfield 141, 3) := by decide +kernel
theorem dX9_idle_7 : decode cX9_idle 7 = .ok (.ifCond .ne 6, 3) := by decide +kernel
theorem dX9_idle_10 : decode cX9_idle 10 = .ok (.bipush (-2), 2) := by decide +kernel
theorem dX9_idle_12 : decode cX9_idle 12 = .ok (.ireturn, 1) := by decide +kernel
theorem dX9_idle_13 : decode cX9_idle 13 = .ok (.aload_n 0, 1) := by decide +kernel
theorem dX9_idle_14 : decode cX9_idle 14 = .ok (.invokevirtual 198, 3) := by decide +kernel
theorem dX9_idle_17 : decode cX9_idle 17 = .ok (.istore_n 1, 1) := by decide +kernel
theorem dX9_idle_18 : decode cX9_idle 18 = .ok (.iconst 0, 1) := by decide +kernel
theorem dX9_idle_19 : decode cX9_idle 19 = .ok (.istore_n 2, 1) := by decide +kernel
theorem dX9_idle_20 : decode cX9_idle 20 = .ok (.iconst 0, 1) := by decide +kernel
theorem dX9_idle_21 : decode cX9_idle 21 = .ok (.istore_n 3, 1) := by decide +kernel
theorem dX9_idle_22 : decode cX9_idle 22 = .ok (.iload_n 3, 1) := by decide +kernel
theorem dX9_idle_23 : decode cX9_idle 23 = .ok (.aload_n 0, 1) := by decide +kernel
theorem dX9_idle_24 : decode cX9_idle 24 = .ok (.getfield 42, 3) := by decide +kernel
theorem dX9_idle_27 : decode cX9_idle 27 = .ok (.getfield 207, 3) := by decide +kernel
theorem dX9_idle_30 : decode cX9_idle 30 = .ok (.if_icmp .ge 54, 3) := by decide +kernel
theorem dX9_idle_33 : decode cX9_idle 33 = .ok (.iconst 0, 1) := by decide +kernel
theorem dX9_idle_34 : decode cX9_idle 34 = .ok (.istore 4, 2) := by decide +kernel
theorem dX9_idle_36 : decode cX9_idle 36 = .ok (.iload 4, 2) := by decide +kernel
theorem dX9_idle_38 : decode cX9_idle 38 = .ok (.aload_n 0, 1) := by decide +kernel
theorem dX9_idle_39 : decode cX9_idle 39 = .ok (.getfield 42, 3) := by decide +kernel
theorem dX9_idle_42 : decode cX9_idle 42 = .ok (.invokevirtual 237, 3) := by decide +kernel
theorem dX9_idle_45 : decode cX9_idle 45 = .ok (.if_icmp .ge 33, 3) := by decide +kernel
theorem dX9_idle_48 : decode cX9_idle 48 = .ok (.aload_n 0, 1) := by decide +kernel
theorem dX9_idle_49 : decode cX9_idle 49 = .ok (.iload_n 3, 1) := by decide +kernel
theorem dX9_idle_50 : decode cX9_idle 50 = .ok (.iload 4, 2) := by decide +kernel
theorem dX9_idle_52 : decode cX9_idle 52 = .ok (.invokevirtual 240, 3) := by decide +kernel
theorem dX9_idle_55 : decode cX9_idle 55 = .ok (.ifCond .eq 17, 3) := by decide +kernel
theorem dX9_idle_58 : decode cX9_idle 58 = .ok (.aload_n 0, 1) := by decide +kernel
theorem dX9_idle_59 : decode cX9_idle 59 = .ok (.iload_n 3, 1) := by decide +kernel
theorem dX9_idle_60 : decode cX9_idle 60 = .ok (.iload 4, 2) := by decide +kernel
theorem dX9_idle_62 : decode cX9_idle 62 = .ok (.invokevirtual 228, 3) := by decide +kernel
theorem dX9_idle_65 : decode cX9_idle 65 = .ok (.iload_n 1, 1) := by decide +kernel
theorem dX9_idle_66 : decode cX9_idle 66 = .ok (.if_icmp .ne 6, 3) := by decide +kernel
theorem dX9_idle_69 : decode cX9_idle 69 = .ok (.iinc 2 1, 3) := by decide +kernel
theorem dX9_idle_72 : decode cX9_idle 72 = .ok (.iinc 4 1, 3) := by decide +kernel
theorem dX9_idle_75 : decode cX9_idle 75 = .ok (.goto (-39), 3) := by decide +kernel
theorem dX9_idle_78 : decode cX9_idle 78 = .ok (.iinc 3 1, 3) := by decide +kernel
theorem dX9_idle_81 : decode cX9_idle 81 = .ok (.goto (-59), 3) := by decide +kernel
theorem dX9_idle_84 : decode cX9_idle 84 = .ok (.iload_n 2, 1) := by decide +kernel
theorem dX9_idle_85 : decode cX9_idle 85 = .ok (.ireturn, 1) := by decide +kernel
theorem dX9_lawful_0 : decode cX9_lawful 0 = .ok (.aload_n 0, 1) := by decide +kernel
theorem dX9_lawful_1 : decode cX9_lawful 1 = .ok (.iload_n 1, 1) := by decide +kernel
theorem dX9_lawful_2 : decode cX9_lawful 2 = .ok (.invokevirtual 243, 3) := by decide +kernel
theorem dX9_lawful_5 : decode cX9_lawful 5 = .ok (.istore_n 2, 1) := by decide +kernel
theorem dX9_lawful_6 : decode cX9_lawful 6 = .ok (.iload_n 2, 1) := by decide +kernel
theorem dX9_lawful_7 : decode cX9_lawful 7 = .ok (.ifCond .eq 5, 3) := by decide +kernel
theorem dX9_lawful_10 : decode cX9_lawful 10 = .ok (.iload_n 2, 1) := by decide +kernel
theorem dX9_lawful_11 : decode cX9_lawful 11 = .ok (.ireturn, 1) := by decide +kernel
theorem dX9_lawful_12 : decode cX9_lawful 12 = .ok (.aload_n 0, 1) := by decide +kernel
theorem dX9_lawful_13 : decode cX9_lawful 13 = .ok (.iload_n 1, 1) := by decide +kernel
theorem dX9_lawful_14 : decode cX9_lawful 14 = .ok (.aload_n 0, 1) := by decide +kernel
theorem dX9_lawful_15 : decode cX9_lawful 15 = .ok (.getfield 82, 3) := by decide +kernel
theorem dX9_lawful_18 : decode cX9_lawful 18 = .ok (.invokevirtual 246, 3) := by decide +kernel
theorem dX9_lawful_21 : decode cX9_lawful 21 = .ok (.aload_n 0, 1) := by decide +kernel
theorem dX9_lawful_22 : decode cX9_lawful 22 = .ok (.getfield 49, 3) := by decide +kernel
theorem dX9_lawful_25 : decode cX9_lawful 25 = .ok (.aload_n 0, 1) := by decide +kernel
theorem dX9_lawful_26 : decode cX9_lawful 26 = .ok (.getfield 82, 3) := by decide +kernel
theorem dX9_lawful_29 : decode cX9_lawful 29 = .ok (.aload_n 0, 1) := by decide +kernel
theorem dX9_lawful_30 : decode cX9_lawful 30 = .ok (.getfield 42, 3) := by decide +kernel
theorem dX9_lawful_33 : decode cX9_lawful 33 = .ok (.getfield 129, 3) := by decide +kernel
theorem dX9_lawful_36 : decode cX9_lawful 36 = .ok (.aload_n 0, 1) := by decide +kernel
theorem dX9_lawful_37 : decode cX9_lawful 37 = .ok (.getfield 42, 3) := by decide +kernel
theorem dX9_lawful_40 : decode cX9_lawful 40 = .ok (.getfield 132, 3) := by decide +kernel
theorem dX9_lawful_43 : decode cX9_lawful 43 = .ok (.invokevirtual 216, 3) := by decide +kernel
theorem dX9_lawful_46 : decode cX9_lawful 46 = .ok (.ireturn, 1) := by decide +kernel
theorem dX9_address_0 : decode cX9_address 0 = .ok (.aload_n 0, 1) := by decide +kernel
theorem dX9_address_1 : decode cX9_address 1 = .ok (.iload_n 1, 1) := by decide +kernel
theorem dX9_address_2 : decode cX9_address 2 = .ok (.invokevirtual 243, 3) := by decide +kernel
theorem dX9_address_5 : decode cX9_address 5 = .ok (.istore_n 3, 1) := by decide +kernel
theorem dX9_address_6 : decode cX9_address 6 = .ok (.iload_n 3, 1) := by decide +kernel
theorem dX9_address_7 : decode cX9_address 7 = .ok (.bipush (-2), 2) := by decide +kernel
theorem dX9_address_9 : decode cX9_address 9 = .ok (.if_icmp .eq 14, 3) := by decide +kernel
theorem dX9_address_12 : decode cX9_address 12 = .ok (.aload_n 0, 1) := by decide +kernel
theorem dX9_address_13 : decode cX9_address 13 = .ok (.getfield 42, 3) := by decide +kernel
theorem dX9_address_16 : decode cX9_address 16 = .ok (.iload_n 2, 1) := by decide +kernel
theorem dX9_address_17 : decode cX9_address 17 = .ok (.invokevirtual 148, 3) := by decide +kernel
theorem dX9_address_20 : decode cX9_address 20 = .ok (.ifCond .ne 6, 3) := by decide +kernel
theorem dX9_address_23 : decode cX9_address 23 = .ok (.bipush (-2), 2) := by decide +kernel
theorem dX9_address_25 : decode cX9_address 25 = .ok (.ireturn, 1) := by decide +kernel
theorem dX9_address_26 : decode cX9_address 26 = .ok (.iload_n 3, 1) := by decide +kernel
theorem dX9_address_27 : decode cX9_address 27 = .ok (.ifCond .eq 5, 3) := by decide +kernel
theorem dX9_address_30 : decode cX9_address 30 = .ok (.iload_n 3, 1) := by decide +kernel
theorem dX9_address_31 : decode cX9_address 31 = .ok (.ireturn, 1) := by decide +kernel
theorem dX9_address_32 : decode cX9_address 32 = .ok (.aload_n 0, 1) := by decide +kernel
theorem dX9_address_33 : decode cX9_address 33 = .ok (.iload_n 1, 1) := by decide +kernel
theorem dX9_address_34 : decode cX9_address 34 = .ok (.aload_n 0, 1) := by decide +kernel
theorem dX9_address_35 : decode cX9_address 35 = .ok (.getfield 82, 3) := by decide +kernel
theorem dX9_address_38 : decode cX9_address 38 = .ok (.invokevirtual 246, 3) := by decide +kernel
theorem dX9_address_41 : decode cX9_address 41 = .ok (.aload_n 0, 1) := by decide +kernel
theorem dX9_address_42 : decode cX9_address 42 = .ok (.getfield 82, 3) := by decide +kernel
theorem dX9_address_45 : decode cX9_address 45 = .ok (.iload_n 2, 1) := by decide +kernel
theorem dX9_address_46 : decode cX9_address 46 = .ok (.iaload, 1) := by decide +kernel
theorem dX9_address_47 : decode cX9_address 47 = .ok (.ireturn, 1) := by decide +kernel
theorem dX9_ways_0 : decode cX9_ways 0 = .ok (.aload_n 0, 1) := by decide +kernel
theorem dX9_ways_1 : decode cX9_ways 1 = .ok (.iconst 2, 1) := by decide +kernel
theorem dX9_ways_2 : decode cX9_ways 2 = .ok (.invokevirtual 243, 3) := by decide +kernel
theorem dX9_ways_5 : decode cX9_ways 5 = .ok (.istore_n 1, 1) := by decide +kernel
theorem dX9_ways_6 : decode cX9_ways 6 = .ok (.iload_n 1, 1) := by decide +kernel
theorem dX9_ways_7 : decode cX9_ways 7 = .ok (.ifCond .eq 6, 3) := by decide +kernel
theorem dX9_ways_10 : decode cX9_ways 10 = .ok (.iload_n 1, 1) := by decide +kernel
theorem dX9_ways_11 : decode cX9_ways 11 = .ok (.i2l, 1) := by decide +kernel
theorem dX9_ways_12 : decode cX9_ways 12 = .ok (.lreturn, 1) := by decide +kernel
theorem dX9_ways_13 : decode cX9_ways 13 = .ok (.aload_n 0, 1) := by decide +kernel
theorem dX9_ways_14 : decode cX9_ways 14 = .ok (.getfield 67, 3) := by decide +kernel
theorem dX9_ways_17 : decode cX9_ways 17 = .ok (.invokevirtual 250, 3) := by decide +kernel
theorem dX9_ways_20 : decode cX9_ways 20 = .ok (.aload_n 0, 1) := by decide +kernel
theorem dX9_ways_21 : decode cX9_ways 21 = .ok (.getfield 67, 3) := by decide +kernel
theorem dX9_ways_24 : decode cX9_ways 24 = .ok (.getfield 253, 3) := by decide +kernel
theorem dX9_ways_27 : decode cX9_ways 27 = .ok (.lreturn, 1) := by decide +kernel
theorem dX9_dearest_0 : decode cX9_dearest 0 = .ok (.aload_n 0, 1) := by decide +kernel
theorem dX9_dearest_1 : decode cX9_dearest 1 = .ok (.iconst 2, 1) := by decide +kernel
theorem dX9_dearest_2 : decode cX9_dearest 2 = .ok (.invokevirtual 243, 3) := by decide +kernel
theorem dX9_dearest_5 : decode cX9_dearest 5 = .ok (.istore_n 1, 1) := by decide +kernel
theorem dX9_dearest_6 : decode cX9_dearest 6 = .ok (.iload_n 1, 1) := by decide +kernel
theorem dX9_dearest_7 : decode cX9_dearest 7 = .ok (.ifCond .eq 5, 3) := by decide +kernel
theorem dX9_dearest_10 : decode cX9_dearest 10 = .ok (.iload_n 1, 1) := by decide +kernel
theorem dX9_dearest_11 : decode cX9_dearest 11 = .ok (.ireturn, 1) := by decide +kernel
theorem dX9_dearest_12 : decode cX9_dearest 12 = .ok (.aload_n 0, 1) := by decide +kernel
theorem dX9_dearest_13 : decode cX9_dearest 13 = .ok (.getfield 67, 3) := by decide +kernel
theorem dX9_dearest_16 : decode cX9_dearest 16 = .ok (.invokevirtual 250, 3) := by decide +kernel
theorem dX9_dearest_19 : decode cX9_dearest 19 = .ok (.aload_n 0, 1) := by decide +kernel
theorem dX9_dearest_20 : decode cX9_dearest 20 = .ok (.getfield 67, 3) := by decide +kernel
theorem dX9_dearest_23 : decode cX9_dearest 23 = .ok (.getfield 257, 3) := by decide +kernel
theorem dX9_dearest_26 : decode cX9_dearest 26 = .ok (.ireturn, 1) := by decide +kernel
theorem dX9_put_0 : decode cX9_put 0 = .ok (.aload_n 0, 1) := by decide +kernel
theorem dX9_put_1 : decode cX9_put 1 = .ok (.iload_n 1, 1) := by decide +kernel
theorem dX9_put_2 : decode cX9_put 2 = .ok (.iload_n 2, 1) := by decide +kernel
theorem dX9_put_3 : decode cX9_put 3 = .ok (.invokevirtual 224, 3) := by decide +kernel
theorem dX9_put_6 : decode cX9_put 6 = .ok (.istore_n 3, 1) := by decide +kernel
theorem dX9_put_7 : decode cX9_put 7 = .ok (.iload_n 3, 1) := by decide +kernel
theorem dX9_put_8 : decode cX9_put 8 = .ok (.ifCond .eq 5, 3) := by decide +kernel
theorem dX9_put_11 : decode cX9_put 11 = .ok (.iload_n 3, 1) := by decide +kernel
theorem dX9_put_12 : decode cX9_put 12 = .ok (.ireturn, 1) := by decide +kernel
theorem dX9_put_13 : decode cX9_put 13 = .ok (.aload_n 0, 1) := by decide +kernel
theorem dX9_put_14 : decode cX9_put 14 = .ok (.getfield 74, 3) := by decide +kernel
theorem dX9_put_17 : decode cX9_put 17 = .ok (.aload_n 0, 1) := by decide +kernel
theorem dX9_put_18 : decode cX9_put 18 = .ok (.getfield 78, 3) := by decide +kernel
theorem dX9_put_21 : decode cX9_put 21 = .ok (.invokevirtual 260, 3) := by decide +kernel
theorem dX9_put_24 : decode cX9_put 24 = .ok (.ifCond .ne 6, 3) := by decide +kernel
theorem dX9_put_27 : decode cX9_put 27 = .ok (.bipush (-5), 2) := by decide +kernel
theorem dX9_put_29 : decode cX9_put 29 = .ok (.ireturn, 1) := by decide +kernel
theorem dX9_put_30 : decode cX9_put 30 = .ok (.aload_n 0, 1) := by decide +kernel
theorem dX9_put_31 : decode cX9_put 31 = .ok (.getfield 78, 3) := by decide +kernel
theorem dX9_put_34 : decode cX9_put 34 = .ok (.iload_n 1, 1) := by decide +kernel
theorem dX9_put_35 : decode cX9_put 35 = .ok (.iload_n 2, 1) := by decide +kernel
theorem dX9_put_36 : decode cX9_put 36 = .ok (.iastore, 1) := by decide +kernel
theorem dX9_put_37 : decode cX9_put 37 = .ok (.aload_n 0, 1) := by decide +kernel
theorem dX9_put_38 : decode cX9_put 38 = .ok (.invokevirtual 198, 3) := by decide +kernel
theorem dX9_put_41 : decode cX9_put 41 = .ok (.ireturn, 1) := by decide +kernel
theorem dX9_swap_0 : decode cX9_swap 0 = .ok (.aload_n 0, 1) := by decide +kernel
theorem dX9_swap_1 : decode cX9_swap 1 = .ok (.iload_n 1, 1) := by decide +kernel
theorem dX9_swap_2 : decode cX9_swap 2 = .ok (.iload_n 2, 1) := by decide +kernel
theorem dX9_swap_3 : decode cX9_swap 3 = .ok (.invokevirtual 231, 3) := by decide +kernel
theorem dX9_swap_6 : decode cX9_swap 6 = .ok (.istore_n 3, 1) := by decide +kernel
theorem dX9_swap_7 : decode cX9_swap 7 = .ok (.iload_n 3, 1) := by decide +kernel
theorem dX9_swap_8 : decode cX9_swap 8 = .ok (.ifCond .eq 5, 3) := by decide +kernel
theorem dX9_swap_11 : decode cX9_swap 11 = .ok (.iload_n 3, 1) := by decide +kernel
theorem dX9_swap_12 : decode cX9_swap 12 = .ok (.ireturn, 1) := by decide +kernel
theorem dX9_swap_13 : decode cX9_swap 13 = .ok (.aload_n 0, 1) := by decide +kernel
theorem dX9_swap_14 : decode cX9_swap 14 = .ok (.getfield 74, 3) := by decide +kernel
theorem dX9_swap_17 : decode cX9_swap 17 = .ok (.aload_n 0, 1) := by decide +kernel
theorem dX9_swap_18 : decode cX9_swap 18 = .ok (.getfield 78, 3) := by decide +kernel
theorem dX9_swap_21 : decode cX9_swap 21 = .ok (.invokevirtual 260, 3) := by decide +kernel
theorem dX9_swap_24 : decode cX9_swap 24 = .ok (.ifCond .ne 6, 3) := by decide +kernel
theorem dX9_swap_27 : decode cX9_swap 27 = .ok (.bipush (-5), 2) := by decide +kernel
theorem dX9_swap_29 : decode cX9_swap 29 = .ok (.ireturn, 1) := by decide +kernel
theorem dX9_swap_30 : decode cX9_swap 30 = .ok (.aload_n 0, 1) := by decide +kernel
theorem dX9_swap_31 : decode cX9_swap 31 = .ok (.iload_n 1, 1) := by decide +kernel
theorem dX9_swap_32 : decode cX9_swap 32 = .ok (.iload_n 2, 1) := by decide +kernel
theorem dX9_swap_33 : decode cX9_swap 33 = .ok (.invokevirtual 264, 3) := by decide +kernel
theorem dX9_swap_36 : decode cX9_swap 36 = .ok (.aload_n 0, 1) := by decide +kernel
theorem dX9_swap_37 : decode cX9_swap 37 = .ok (.invokevirtual 198, 3) := by decide +kernel
theorem dX9_swap_40 : decode cX9_swap 40 = .ok (.ireturn, 1) := by decide +kernel
theorem dX9_lays_0 : decode cX9_lays 0 = .ok (.aload_n 0, 1) := by decide +kernel
theorem dX9_lays_1 : decode cX9_lays 1 = .ok (.iload_n 1, 1) := by decide +kernel
theorem dX9_lays_2 : decode cX9_lays 2 = .ok (.invokevirtual 243, 3) := by decide +kernel
theorem dX9_lays_5 : decode cX9_lays 5 = .ok (.istore_n 2, 1) := by decide +kernel
theorem dX9_lays_6 : decode cX9_lays 6 = .ok (.iload_n 2, 1) := by decide +kernel
theorem dX9_lays_7 : decode cX9_lays 7 = .ok (.bipush (-2), 2) := by decide +kernel
theorem dX9_lays_9 : decode cX9_lays 9 = .ok (.if_icmp .ne 6, 3) := by decide +kernel
theorem dX9_lays_12 : decode cX9_lays 12 = .ok (.bipush (-2), 2) := by decide +kernel
theorem dX9_lays_14 : decode cX9_lays 14 = .ok (.ireturn, 1) := by decide +kernel
theorem dX9_lays_15 : decode cX9_lays 15 = .ok (.aload_n 0, 1) := by decide +kernel
theorem dX9_lays_16 : decode cX9_lays 16 = .ok (.getfield 74, 3) := by decide +kernel
theorem dX9_lays_19 : decode cX9_lays 19 = .ok (.getfield 117, 3) := by decide +kernel
theorem dX9_lays_22 : decode cX9_lays 22 = .ok (.bipush 20, 2) := by decide +kernel
theorem dX9_lays_24 : decode cX9_lays 24 = .ok (.if_icmp .lt 6, 3) := by decide +kernel
theorem dX9_lays_27 : decode cX9_lays 27 = .ok (.bipush (-5), 2) := by decide +kernel
theorem dX9_lays_29 : decode cX9_lays 29 = .ok (.ireturn, 1) := by decide +kernel
theorem dX9_lays_30 : decode cX9_lays 30 = .ok (.iload_n 2, 1) := by decide +kernel
theorem dX9_lays_31 : decode cX9_lays 31 = .ok (.ifCond .eq 5, 3) := by decide +kernel
theorem dX9_lays_34 : decode cX9_lays 34 = .ok (.iload_n 2, 1) := by decide +kernel
theorem dX9_lays_35 : decode cX9_lays 35 = .ok (.ireturn, 1) := by decide +kernel
theorem dX9_lays_36 : decode cX9_lays 36 = .ok (.aload_n 0, 1) := by decide +kernel
theorem dX9_lays_37 : decode cX9_lays 37 = .ok (.getfield 74, 3) := by decide +kernel
theorem dX9_lays_40 : decode cX9_lays 40 = .ok (.aload_n 0, 1) := by decide +kernel
theorem dX9_lays_41 : decode cX9_lays 41 = .ok (.getfield 78, 3) := by decide +kernel
theorem dX9_lays_44 : decode cX9_lays 44 = .ok (.invokevirtual 260, 3) := by decide +kernel
theorem dX9_lays_47 : decode cX9_lays 47 = .ok (.pop, 1) := by decide +kernel
theorem dX9_lays_48 : decode cX9_lays 48 = .ok (.aload_n 0, 1) := by decide +kernel
theorem dX9_lays_49 : decode cX9_lays 49 = .ok (.iload_n 1, 1) := by decide +kernel
theorem dX9_lays_50 : decode cX9_lays 50 = .ok (.aload_n 0, 1) := by decide +kernel
theorem dX9_lays_51 : decode cX9_lays 51 = .ok (.getfield 78, 3) := by decide +kernel
theorem dX9_lays_54 : decode cX9_lays 54 = .ok (.invokevirtual 246, 3) := by decide +kernel
theorem dX9_lays_57 : decode cX9_lays 57 = .ok (.aload_n 0, 1) := by decide +kernel
theorem dX9_lays_58 : decode cX9_lays 58 = .ok (.invokevirtual 198, 3) := by decide +kernel
theorem dX9_lays_61 : decode cX9_lays 61 = .ok (.ireturn, 1) := by decide +kernel
theorem dX9_undo_0 : decode cX9_undo 0 = .ok (.aload_n 0, 1) := by decide +kernel
theorem dX9_undo_1 : decode cX9_undo 1 = .ok (.getfield 42, 3) := by decide +kernel
theorem dX9_undo_4 : decode cX9_undo 4 = .ok (.getfield 120, 3) := by decide +kernel
theorem dX9_undo_7 : decode cX9_undo 7 = .ok (.ifCond .ne 6, 3) := by decide +kernel
theorem dX9_undo_10 : decode cX9_undo 10 = .ok (.bipush (-2), 2) := by decide +kernel
theorem dX9_undo_12 : decode cX9_undo 12 = .ok (.ireturn, 1) := by decide +kernel
theorem dX9_undo_13 : decode cX9_undo 13 = .ok (.aload_n 0, 1) := by decide +kernel
theorem dX9_undo_14 : decode cX9_undo 14 = .ok (.getfield 74, 3) := by decide +kernel
theorem dX9_undo_17 : decode cX9_undo 17 = .ok (.getfield 117, 3) := by decide +kernel
theorem dX9_undo_20 : decode cX9_undo 20 = .ok (.ifCond .ne 6, 3) := by decide +kernel
theorem dX9_undo_23 : decode cX9_undo 23 = .ok (.bipush (-5), 2) := by decide +kernel
theorem dX9_undo_25 : decode cX9_undo 25 = .ok (.ireturn, 1) := by decide +kernel
theorem dX9_undo_26 : decode cX9_undo 26 = .ok (.aload_n 0, 1) := by decide +kernel
theorem dX9_undo_27 : decode cX9_undo 27 = .ok (.getfield 74, 3) := by decide +kernel
theorem dX9_undo_30 : decode cX9_undo 30 = .ok (.aload_n 0, 1) := by decide +kernel
theorem dX9_undo_31 : decode cX9_undo 31 = .ok (.getfield 74, 3) := by decide +kernel
theorem dX9_undo_34 : decode cX9_undo 34 = .ok (.getfield 117, 3) := by decide +kernel
theorem dX9_undo_37 : decode cX9_undo 37 = .ok (.iconst 1, 1) := by decide +kernel
theorem dX9_undo_38 : decode cX9_undo 38 = .ok (.isub, 1) := by decide +kernel
theorem dX9_undo_39 : decode cX9_undo 39 = .ok (.aload_n 0, 1) := by decide +kernel
theorem dX9_undo_40 : decode cX9_undo 40 = .ok (.getfield 78, 3) := by decide +kernel
theorem dX9_undo_43 : decode cX9_undo 43 = .ok (.invokevirtual 268, 3) := by decide +kernel
theorem dX9_undo_46 : decode cX9_undo 46 = .ok (.aload_n 0, 1) := by decide +kernel
theorem dX9_undo_47 : decode cX9_undo 47 = .ok (.getfield 74, 3) := by decide +kernel
theorem dX9_undo_50 : decode cX9_undo 50 = .ok (.getfield 117, 3) := by decide +kernel
theorem dX9_undo_53 : decode cX9_undo 53 = .ok (.ireturn, 1) := by decide +kernel
theorem dX9_anew_0 : decode cX9_anew 0 = .ok (.aload_n 0, 1) := by decide +kernel
theorem dX9_anew_1 : decode cX9_anew 1 = .ok (.getfield 42, 3) := by decide +kernel
theorem dX9_anew_4 : decode cX9_anew 4 = .ok (.getfield 120, 3) := by decide +kernel
theorem dX9_anew_7 : decode cX9_anew 7 = .ok (.ifCond .ne 6, 3) := by decide +kernel
theorem dX9_anew_10 : decode cX9_anew 10 = .ok (.bipush (-2), 2) := by decide +kernel
theorem dX9_anew_12 : decode cX9_anew 12 = .ok (.ireturn, 1) := by decide +kernel
theorem dX9_anew_13 : decode cX9_anew 13 = .ok (.aload_n 0, 1) := by decide +kernel
theorem dX9_anew_14 : decode cX9_anew 14 = .ok (.getfield 74, 3) := by decide +kernel
theorem dX9_anew_17 : decode cX9_anew 17 = .ok (.getfield 117, 3) := by decide +kernel
theorem dX9_anew_20 : decode cX9_anew 20 = .ok (.istore_n 1, 1) := by decide +kernel
theorem dX9_anew_21 : decode cX9_anew 21 = .ok (.aload_n 0, 1) := by decide +kernel
theorem dX9_anew_22 : decode cX9_anew 22 = .ok (.getfield 74, 3) := by decide +kernel
theorem dX9_anew_25 : decode cX9_anew 25 = .ok (.iconst 0, 1) := by decide +kernel
theorem dX9_anew_26 : decode cX9_anew 26 = .ok (.aload_n 0, 1) := by decide +kernel
theorem dX9_anew_27 : decode cX9_anew 27 = .ok (.getfield 78, 3) := by decide +kernel
theorem dX9_anew_30 : decode cX9_anew 30 = .ok (.invokevirtual 268, 3) := by decide +kernel
theorem dX9_anew_33 : decode cX9_anew 33 = .ok (.iload_n 1, 1) := by decide +kernel
theorem dX9_anew_34 : decode cX9_anew 34 = .ok (.ireturn, 1) := by decide +kernel
theorem dX9_itemAt_0 : decode cX9_itemAt 0 = .ok (.iconst 0, 1) := by decide +kernel
theorem dX9_itemAt_1 : decode cX9_itemAt 1 = .ok (.istore_n 2, 1) := by decide +kernel
theorem dX9_itemAt_2 : decode cX9_itemAt 2 = .ok (.iload_n 2, 1) := by decide +kernel
theorem dX9_itemAt_3 : decode cX9_itemAt 3 = .ok (.aload_n 0, 1) := by decide +kernel
theorem dX9_itemAt_4 : decode cX9_itemAt 4 = .ok (.getfield 42, 3) := by decide +kernel
theorem dX9_itemAt_7 : decode cX9_itemAt 7 = .ok (.getfield 207, 3) := by decide +kernel
theorem dX9_itemAt_10 : decode cX9_itemAt 10 = .ok (.if_icmp .ge 21, 3) := by decide +kernel
theorem dX9_itemAt_13 : decode cX9_itemAt 13 = .ok (.aload_n 0, 1) := by decide +kernel
theorem dX9_itemAt_14 : decode cX9_itemAt 14 = .ok (.getfield 78, 3) := by decide +kernel
theorem dX9_itemAt_17 : decode cX9_itemAt 17 = .ok (.iload_n 2, 1) := by decide +kernel
theorem dX9_itemAt_18 : decode cX9_itemAt 18 = .ok (.iaload, 1) := by decide +kernel
theorem dX9_itemAt_19 : decode cX9_itemAt 19 = .ok (.iload_n 1, 1) := by decide +kernel
theorem dX9_itemAt_20 : decode cX9_itemAt 20 = .ok (.if_icmp .ne 5, 3) := by decide +kernel
theorem dX9_itemAt_23 : decode cX9_itemAt 23 = .ok (.iload_n 2, 1) := by decide +kernel
theorem dX9_itemAt_24 : decode cX9_itemAt 24 = .ok (.ireturn, 1) := by decide +kernel
theorem dX9_itemAt_25 : decode cX9_itemAt 25 = .ok (.iinc 2 1, 3) := by decide +kernel
theorem dX9_itemAt_28 : decode cX9_itemAt 28 = .ok (.goto (-26), 3) := by decide +kernel
theorem dX9_itemAt_31 : decode cX9_itemAt 31 = .ok (.iconst (-1), 1) := by decide +kernel
theorem dX9_itemAt_32 : decode cX9_itemAt 32 = .ok (.ireturn, 1) := by decide +kernel
theorem dX9_timeNow_0 : decode cX9_timeNow 0 = .ok (.aload_n 0, 1) := by decide +kernel
theorem dX9_timeNow_1 : decode cX9_timeNow 1 = .ok (.getfield 49, 3) := by decide +kernel
theorem dX9_timeNow_4 : decode cX9_timeNow 4 = .ok (.aload_n 0, 1) := by decide +kernel
theorem dX9_timeNow_5 : decode cX9_timeNow 5 = .ok (.getfield 78, 3) := by decide +kernel
theorem dX9_timeNow_8 : decode cX9_timeNow 8 = .ok (.aload_n 0, 1) := by decide +kernel
theorem dX9_timeNow_9 : decode cX9_timeNow 9 = .ok (.getfield 42, 3) := by decide +kernel
theorem dX9_timeNow_12 : decode cX9_timeNow 12 = .ok (.getfield 129, 3) := by decide +kernel
theorem dX9_timeNow_15 : decode cX9_timeNow 15 = .ok (.aload_n 0, 1) := by decide +kernel
theorem dX9_timeNow_16 : decode cX9_timeNow 16 = .ok (.getfield 42, 3) := by decide +kernel
theorem dX9_timeNow_19 : decode cX9_timeNow 19 = .ok (.getfield 132, 3) := by decide +kernel
theorem dX9_timeNow_22 : decode cX9_timeNow 22 = .ok (.invokevirtual 216, 3) := by decide +kernel
theorem dX9_timeNow_25 : decode cX9_timeNow 25 = .ok (.ireturn, 1) := by decide +kernel
theorem dX9_whenRead_0 : decode cX9_whenRead 0 = .ok (.aload_n 0, 1) := by decide +kernel
theorem dX9_whenRead_1 : decode cX9_whenRead 1 = .ok (.invokevirtual 198, 3) := by decide +kernel
theorem dX9_whenRead_4 : decode cX9_whenRead 4 = .ok (.pop, 1) := by decide +kernel
theorem dX9_whenRead_5 : decode cX9_whenRead 5 = .ok (.aload_n 0, 1) := by decide +kernel
theorem dX9_whenRead_6 : decode cX9_whenRead 6 = .ok (.getfield 49, 3) := by decide +kernel
theorem dX9_whenRead_9 : decode cX9_whenRead 9 = .ok (.iload_n 1, 1) := by decide +kernel
theorem dX9_whenRead_10 : decode cX9_whenRead 10 = .ok (.invokevirtual 271, 3) := by decide +kernel
theorem dX9_whenRead_13 : decode cX9_whenRead 13 = .ok (.ireturn, 1) := by decide +kernel
theorem dX9_lostInAll_0 : decode cX9_lostInAll 0 = .ok (.aload_n 0, 1) := by decide +kernel
theorem dX9_lostInAll_1 : decode cX9_lostInAll 1 = .ok (.invokevirtual 198, 3) := by decide +kernel
theorem dX9_lostInAll_4 : decode cX9_lostInAll 4 = .ok (.pop, 1) := by decide +kernel
theorem dX9_lostInAll_5 : decode cX9_lostInAll 5 = .ok (.aload_n 0, 1) := by decide +kernel
theorem dX9_lostInAll_6 : decode cX9_lostInAll 6 = .ok (.getfield 49, 3) := by decide +kernel
theorem dX9_lostInAll_9 : decode cX9_lostInAll 9 = .ok (.invokevirtual 213, 3) := by decide +kernel
theorem dX9_lostInAll_12 : decode cX9_lostInAll 12 = .ok (.aload_n 0, 1) := by decide +kernel
theorem dX9_lostInAll_13 : decode cX9_lostInAll 13 = .ok (.getfield 49, 3) := by decide +kernel
theorem dX9_lostInAll_16 : decode cX9_lostInAll 16 = .ok (.invokevirtual 274, 3) := by decide +kernel
theorem dX9_lostInAll_19 : decode cX9_lostInAll 19 = .ok (.iadd, 1) := by decide +kernel
theorem dX9_lostInAll_20 : decode cX9_lostInAll 20 = .ok (.ireturn, 1) := by decide +kernel
theorem dX9_refusalOfMove_0 : decode cX9_refusalOfMove 0 = .ok (.aload_n 0, 1) := by decide +kernel
theorem dX9_refusalOfMove_1 : decode cX9_refusalOfMove 1 = .ok (.getfield 42, 3) := by decide +kernel
theorem dX9_refusalOfMove_4 : decode cX9_refusalOfMove 4 = .ok (.getfield 141, 3) := by decide +kernel
theorem dX9_refusalOfMove_7 : decode cX9_refusalOfMove 7 = .ok (.ifCond .eq 25, 3) := by decide +kernel
theorem dX9_refusalOfMove_10 : decode cX9_refusalOfMove 10 = .ok (.aload_n 0, 1) := by decide +kernel
theorem dX9_refusalOfMove_11 : decode cX9_refusalOfMove 11 = .ok (.getfield 42, 3) := by decide +kernel
theorem dX9_refusalOfMove_14 : decode cX9_refusalOfMove 14 = .ok (.iload_n 1, 1) := by decide +kernel
theorem dX9_refusalOfMove_15 : decode cX9_refusalOfMove 15 = .ok (.invokevirtual 148, 3) := by decide +kernel
theorem dX9_refusalOfMove_18 : decode cX9_refusalOfMove 18 = .ok (.ifCond .eq 14, 3) := by decide +kernel
theorem dX9_refusalOfMove_21 : decode cX9_refusalOfMove 21 = .ok (.aload_n 0, 1) := by decide +kernel
theorem dX9_refusalOfMove_22 : decode cX9_refusalOfMove 22 = .ok (.getfield 42, 3) := by decide +kernel
theorem dX9_refusalOfMove_25 : decode cX9_refusalOfMove 25 = .ok (.iload_n 2, 1) := by decide +kernel
theorem dX9_refusalOfMove_26 : decode cX9_refusalOfMove 26 = .ok (.invokevirtual 161, 3) := by decide +kernel
theorem dX9_refusalOfMove_29 : decode cX9_refusalOfMove 29 = .ok (.ifCond .ne 6, 3) := by decide +kernel
theorem dX9_refusalOfMove_32 : decode cX9_refusalOfMove 32 = .ok (.bipush (-2), 2) := by decide +kernel
theorem dX9_refusalOfMove_34 : decode cX9_refusalOfMove 34 = .ok (.ireturn, 1) := by decide +kernel
theorem dX9_refusalOfMove_35 : decode cX9_refusalOfMove 35 = .ok (.aload_n 0, 1) := by decide +kernel
theorem dX9_refusalOfMove_36 : decode cX9_refusalOfMove 36 = .ok (.iload_n 2, 1) := by decide +kernel
theorem dX9_refusalOfMove_37 : decode cX9_refusalOfMove 37 = .ok (.invokevirtual 164, 3) := by decide +kernel
theorem dX9_refusalOfMove_40 : decode cX9_refusalOfMove 40 = .ok (.istore_n 3, 1) := by decide +kernel
theorem dX9_refusalOfMove_41 : decode cX9_refusalOfMove 41 = .ok (.aload_n 0, 1) := by decide +kernel
theorem dX9_refusalOfMove_42 : decode cX9_refusalOfMove 42 = .ok (.getfield 42, 3) := by decide +kernel
theorem dX9_refusalOfMove_45 : decode cX9_refusalOfMove 45 = .ok (.iload_n 1, 1) := by decide +kernel
theorem dX9_refusalOfMove_46 : decode cX9_refusalOfMove 46 = .ok (.invokevirtual 155, 3) := by decide +kernel
theorem dX9_refusalOfMove_49 : decode cX9_refusalOfMove 49 = .ok (.ifCond .ne 13, 3) := by decide +kernel
theorem dX9_refusalOfMove_52 : decode cX9_refusalOfMove 52 = .ok (.iload_n 3, 1) := by decide +kernel
theorem dX9_refusalOfMove_53 : decode cX9_refusalOfMove 53 = .ok (.iconst (-1), 1) := by decide +kernel
theorem dX9_refusalOfMove_54 : decode cX9_refusalOfMove 54 = .ok (.if_icmp .eq 13, 3) := by decide +kernel
theorem dX9_refusalOfMove_57 : decode cX9_refusalOfMove 57 = .ok (.iload_n 3, 1) := by decide +kernel
theorem dX9_refusalOfMove_58 : decode cX9_refusalOfMove 58 = .ok (.iload_n 1, 1) := by decide +kernel
theorem dX9_refusalOfMove_59 : decode cX9_refusalOfMove 59 = .ok (.if_icmp .eq 8, 3) := by decide +kernel
theorem dX9_refusalOfMove_62 : decode cX9_refusalOfMove 62 = .ok (.bipush (-5), 2) := by decide +kernel
theorem dX9_refusalOfMove_64 : decode cX9_refusalOfMove 64 = .ok (.goto 4, 3) := by decide +kernel
theorem dX9_refusalOfMove_67 : decode cX9_refusalOfMove 67 = .ok (.iconst 0, 1) := by decide +kernel
theorem dX9_refusalOfMove_68 : decode cX9_refusalOfMove 68 = .ok (.ireturn, 1) := by decide +kernel
theorem dX9_refusalOfExchange_0 : decode cX9_refusalOfExchange 0 = .ok (.aload_n 0, 1) := by decide +kernel
theorem dX9_refusalOfExchange_1 : decode cX9_refusalOfExchange 1 = .ok (.getfield 42, 3) := by decide +kernel
theorem dX9_refusalOfExchange_4 : decode cX9_refusalOfExchange 4 = .ok (.getfield 141, 3) := by decide +kernel
theorem dX9_refusalOfExchange_7 : decode cX9_refusalOfExchange 7 = .ok (.ifCond .eq 30, 3) := by decide +kernel
theorem dX9_refusalOfExchange_10 : decode cX9_refusalOfExchange 10 = .ok (.iload_n 1, 1) := by decide +kernel
theorem dX9_refusalOfExchange_11 : decode cX9_refusalOfExchange 11 = .ok (.iload_n 2, 1) := by decide +kernel
theorem dX9_refusalOfExchange_12 : decode cX9_refusalOfExchange 12 = .ok (.if_icmp .eq 25, 3) := by decide +kernel
theorem dX9_refusalOfExchange_15 : decode cX9_refusalOfExchange 15 = .ok (.aload_n 0, 1) := by decide +kernel
theorem dX9_refusalOfExchange_16 : decode cX9_refusalOfExchange 16 = .ok (.getfield 42, 3) := by decide +kernel
theorem dX9_refusalOfExchange_19 : decode cX9_refusalOfExchange 19 = .ok (.iload_n 1, 1) := by decide +kernel
theorem dX9_refusalOfExchange_20 : decode cX9_refusalOfExchange 20 = .ok (.invokevirtual 148, 3) := by decide +kernel
theorem dX9_refusalOfExchange_23 : decode cX9_refusalOfExchange 23 = .ok (.ifCond .eq 14, 3) := by decide +kernel
theorem dX9_refusalOfExchange_26 : decode cX9_refusalOfExchange 26 = .ok (.aload_n 0, 1) := by decide +kernel
theorem dX9_refusalOfExchange_27 : decode cX9_refusalOfExchange 27 = .ok (.getfield 42, 3) := by decide +kernel
theorem dX9_refusalOfExchange_30 : decode cX9_refusalOfExchange 30 = .ok (.iload_n 2, 1) := by decide +kernel
theorem dX9_refusalOfExchange_31 : decode cX9_refusalOfExchange 31 = .ok (.invokevirtual 148, 3) := by decide +kernel
theorem dX9_refusalOfExchange_34 : decode cX9_refusalOfExchange 34 = .ok (.ifCond .ne 6, 3) := by decide +kernel
theorem dX9_refusalOfExchange_37 : decode cX9_refusalOfExchange 37 = .ok (.bipush (-2), 2) := by decide +kernel
theorem dX9_refusalOfExchange_39 : decode cX9_refusalOfExchange 39 = .ok (.ireturn, 1) := by decide +kernel
theorem dX9_refusalOfExchange_40 : decode cX9_refusalOfExchange 40 = .ok (.aload_n 0, 1) := by decide +kernel
theorem dX9_refusalOfExchange_41 : decode cX9_refusalOfExchange 41 = .ok (.getfield 42, 3) := by decide +kernel
theorem dX9_refusalOfExchange_44 : decode cX9_refusalOfExchange 44 = .ok (.iload_n 1, 1) := by decide +kernel
theorem dX9_refusalOfExchange_45 : decode cX9_refusalOfExchange 45 = .ok (.invokevirtual 155, 3) := by decide +kernel
theorem dX9_refusalOfExchange_48 : decode cX9_refusalOfExchange 48 = .ok (.ifCond .ne 14, 3) := by decide +kernel
theorem dX9_refusalOfExchange_51 : decode cX9_refusalOfExchange 51 = .ok (.aload_n 0, 1) := by decide +kernel
theorem dX9_refusalOfExchange_52 : decode cX9_refusalOfExchange 52 = .ok (.getfield 42, 3) := by decide +kernel
theorem dX9_refusalOfExchange_55 : decode cX9_refusalOfExchange 55 = .ok (.iload_n 2, 1) := by decide +kernel
theorem dX9_refusalOfExchange_56 : decode cX9_refusalOfExchange 56 = .ok (.invokevirtual 155, 3) := by decide +kernel
theorem dX9_refusalOfExchange_59 : decode cX9_refusalOfExchange 59 = .ok (.ifCond .eq 8, 3) := by decide +kernel
theorem dX9_refusalOfExchange_62 : decode cX9_refusalOfExchange 62 = .ok (.bipush (-5), 2) := by decide +kernel
theorem dX9_refusalOfExchange_64 : decode cX9_refusalOfExchange 64 = .ok (.goto 4, 3) := by decide +kernel
theorem dX9_refusalOfExchange_67 : decode cX9_refusalOfExchange 67 = .ok (.iconst 0, 1) := by decide +kernel
theorem dX9_refusalOfExchange_68 : decode cX9_refusalOfExchange 68 = .ok (.ireturn, 1) := by decide +kernel
theorem dX9_refusalOfLaw_0 : decode cX9_refusalOfLaw 0 = .ok (.aload_n 0, 1) := by decide +kernel
theorem dX9_refusalOfLaw_1 : decode cX9_refusalOfLaw 1 = .ok (.getfield 42, 3) := by decide +kernel
theorem dX9_refusalOfLaw_4 : decode cX9_refusalOfLaw 4 = .ok (.getfield 141, 3) := by decide +kernel
theorem dX9_refusalOfLaw_7 : decode cX9_refusalOfLaw 7 = .ok (.ifCond .eq 12, 3) := by decide +kernel
theorem dX9_refusalOfLaw_10 : decode cX9_refusalOfLaw 10 = .ok (.iload_n 1, 1) := by decide +kernel
theorem dX9_refusalOfLaw_11 : decode cX9_refusalOfLaw 11 = .ok (.ifCond .lt 8, 3) := by decide +kernel
theorem dX9_refusalOfLaw_14 : decode cX9_refusalOfLaw 14 = .ok (.iload_n 1, 1) := by decide +kernel
theorem dX9_refusalOfLaw_15 : decode cX9_refusalOfLaw 15 = .ok (.iconst 2, 1) := by decide +kernel
theorem dX9_refusalOfLaw_16 : decode cX9_refusalOfLaw 16 = .ok (.if_icmp .le 6, 3) := by decide +kernel
theorem dX9_refusalOfLaw_19 : decode cX9_refusalOfLaw 19 = .ok (.bipush (-2), 2) := by decide +kernel
theorem dX9_refusalOfLaw_21 : decode cX9_refusalOfLaw 21 = .ok (.ireturn, 1) := by decide +kernel
theorem dX9_refusalOfLaw_22 : decode cX9_refusalOfLaw 22 = .ok (.iload_n 1, 1) := by decide +kernel
theorem dX9_refusalOfLaw_23 : decode cX9_refusalOfLaw 23 = .ok (.iconst 2, 1) := by decide +kernel
theorem dX9_refusalOfLaw_24 : decode cX9_refusalOfLaw 24 = .ok (.if_icmp .ne 19, 3) := by decide +kernel
theorem dX9_refusalOfLaw_27 : decode cX9_refusalOfLaw 27 = .ok (.aload_n 0, 1) := by decide +kernel
theorem dX9_refusalOfLaw_28 : decode cX9_refusalOfLaw 28 = .ok (.getfield 42, 3) := by decide +kernel
theorem dX9_refusalOfLaw_31 : decode cX9_refusalOfLaw 31 = .ok (.invokevirtual 144, 3) := by decide +kernel
theorem dX9_refusalOfLaw_34 : decode cX9_refusalOfLaw 34 = .ok (.iconst 4, 1) := by decide +kernel
theorem dX9_refusalOfLaw_35 : decode cX9_refusalOfLaw 35 = .ok (.if_icmp .le 8, 3) := by decide +kernel
theorem dX9_refusalOfLaw_38 : decode cX9_refusalOfLaw 38 = .ok (.bipush (-3), 2) := by decide +kernel
theorem dX9_refusalOfLaw_40 : decode cX9_refusalOfLaw 40 = .ok (.goto 4, 3) := by decide +kernel
theorem dX9_refusalOfLaw_43 : decode cX9_refusalOfLaw 43 = .ok (.iconst 0, 1) := by decide +kernel
theorem dX9_refusalOfLaw_44 : decode cX9_refusalOfLaw 44 = .ok (.ireturn, 1) := by decide +kernel
theorem dX9_isMove_0 : decode cX9_isMove 0 = .ok (.aload_n 0, 1) := by decide +kernel
theorem dX9_isMove_1 : decode cX9_isMove 1 = .ok (.getfield 42, 3) := by decide +kernel
theorem dX9_isMove_4 : decode cX9_isMove 4 = .ok (.iload_n 1, 1) := by decide +kernel
theorem dX9_isMove_5 : decode cX9_isMove 5 = .ok (.invokevirtual 155, 3) := by decide +kernel
theorem dX9_isMove_8 : decode cX9_isMove 8 = .ok (.ifCond .ne 16, 3) := by decide +kernel
theorem dX9_isMove_11 : decode cX9_isMove 11 = .ok (.aload_n 0, 1) := by decide +kernel
theorem dX9_isMove_12 : decode cX9_isMove 12 = .ok (.iload_n 2, 1) := by decide +kernel
theorem dX9_isMove_13 : decode cX9_isMove 13 = .ok (.invokevirtual 164, 3) := by decide +kernel
theorem dX9_isMove_16 : decode cX9_isMove 16 = .ok (.iconst (-1), 1) := by decide +kernel
theorem dX9_isMove_17 : decode cX9_isMove 17 = .ok (.if_icmp .ne 7, 3) := by decide +kernel
theorem dX9_isMove_20 : decode cX9_isMove 20 = .ok (.iconst 1, 1) := by decide +kernel
theorem dX9_isMove_21 : decode cX9_isMove 21 = .ok (.goto 4, 3) := by decide +kernel
theorem dX9_isMove_24 : decode cX9_isMove 24 = .ok (.iconst 0, 1) := by decide +kernel
theorem dX9_isMove_25 : decode cX9_isMove 25 = .ok (.ireturn, 1) := by decide +kernel
theorem dX9_timeMoved_0 : decode cX9_timeMoved 0 = .ok (.aload_n 0, 1) := by decide +kernel
theorem dX9_timeMoved_1 : decode cX9_timeMoved 1 = .ok (.getfield 49, 3) := by decide +kernel
theorem dX9_timeMoved_4 : decode cX9_timeMoved 4 = .ok (.aload_n 0, 1) := by decide +kernel
theorem dX9_timeMoved_5 : decode cX9_timeMoved 5 = .ok (.getfield 78, 3) := by decide +kernel
theorem dX9_timeMoved_8 : decode cX9_timeMoved 8 = .ok (.aload_n 0, 1) := by decide +kernel
theorem dX9_timeMoved_9 : decode cX9_timeMoved 9 = .ok (.getfield 42, 3) := by decide +kernel
theorem dX9_timeMoved_12 : decode cX9_timeMoved 12 = .ok (.getfield 132, 3) := by decide +kernel
theorem dX9_timeMoved_15 : decode cX9_timeMoved 15 = .ok (.invokevirtual 277, 3) := by decide +kernel
theorem dX9_timeMoved_18 : decode cX9_timeMoved 18 = .ok (.aload_n 0, 1) := by decide +kernel
theorem dX9_timeMoved_19 : decode cX9_timeMoved 19 = .ok (.getfield 49, 3) := by decide +kernel
theorem dX9_timeMoved_22 : decode cX9_timeMoved 22 = .ok (.iload_n 1, 1) := by decide +kernel
theorem dX9_timeMoved_23 : decode cX9_timeMoved 23 = .ok (.iload_n 2, 1) := by decide +kernel
theorem dX9_timeMoved_24 : decode cX9_timeMoved 24 = .ok (.aload_n 0, 1) := by decide +kernel
theorem dX9_timeMoved_25 : decode cX9_timeMoved 25 = .ok (.getfield 42, 3) := by decide +kernel
theorem dX9_timeMoved_28 : decode cX9_timeMoved 28 = .ok (.getfield 132, 3) := by decide +kernel
theorem dX9_timeMoved_31 : decode cX9_timeMoved 31 = .ok (.invokevirtual 281, 3) := by decide +kernel
theorem dX9_timeMoved_34 : decode cX9_timeMoved 34 = .ok (.aload_n 0, 1) := by decide +kernel
theorem dX9_timeMoved_35 : decode cX9_timeMoved 35 = .ok (.getfield 49, 3) := by decide +kernel
theorem dX9_timeMoved_38 : decode cX9_timeMoved 38 = .ok (.aload_n 0, 1) := by decide +kernel
theorem dX9_timeMoved_39 : decode cX9_timeMoved 39 = .ok (.getfield 42, 3) := by decide +kernel
theorem dX9_timeMoved_42 : decode cX9_timeMoved 42 = .ok (.getfield 129, 3) := by decide +kernel
theorem dX9_timeMoved_45 : decode cX9_timeMoved 45 = .ok (.iconst 0, 1) := by decide +kernel
theorem dX9_timeMoved_46 : decode cX9_timeMoved 46 = .ok (.invokevirtual 285, 3) := by decide +kernel
theorem dX9_timeMoved_49 : decode cX9_timeMoved 49 = .ok (.ireturn, 1) := by decide +kernel
theorem dX9_timeExchanged_0 : decode cX9_timeExchanged 0 = .ok (.aload_n 0, 1) := by decide +kernel
theorem dX9_timeExchanged_1 : decode cX9_timeExchanged 1 = .ok (.getfield 49, 3) := by decide +kernel
theorem dX9_timeExchanged_4 : decode cX9_timeExchanged 4 = .ok (.aload_n 0, 1) := by decide +kernel
theorem dX9_timeExchanged_5 : decode cX9_timeExchanged 5 = .ok (.getfield 78, 3) := by decide +kernel
theorem dX9_timeExchanged_8 : decode cX9_timeExchanged 8 = .ok (.aload_n 0, 1) := by decide +kernel
theorem dX9_timeExchanged_9 : decode cX9_timeExchanged 9 = .ok (.getfield 42, 3) := by decide +kernel
theorem dX9_timeExchanged_12 : decode cX9_timeExchanged 12 = .ok (.getfield 132, 3) := by decide +kernel
theorem dX9_timeExchanged_15 : decode cX9_timeExchanged 15 = .ok (.invokevirtual 277, 3) := by decide +kernel
theorem dX9_timeExchanged_18 : decode cX9_timeExchanged 18 = .ok (.aload_n 0, 1) := by decide +kernel
theorem dX9_timeExchanged_19 : decode cX9_timeExchanged 19 = .ok (.getfield 49, 3) := by decide +kernel
theorem dX9_timeExchanged_22 : decode cX9_timeExchanged 22 = .ok (.iload_n 1, 1) := by decide +kernel
theorem dX9_timeExchanged_23 : decode cX9_timeExchanged 23 = .ok (.aload_n 0, 1) := by decide +kernel
theorem dX9_timeExchanged_24 : decode cX9_timeExchanged 24 = .ok (.getfield 78, 3) := by decide +kernel
theorem dX9_timeExchanged_27 : decode cX9_timeExchanged 27 = .ok (.iload_n 2, 1) := by decide +kernel
theorem dX9_timeExchanged_28 : decode cX9_timeExchanged 28 = .ok (.iaload, 1) := by decide +kernel
theorem dX9_timeExchanged_29 : decode cX9_timeExchanged 29 = .ok (.aload_n 0, 1) := by decide +kernel
theorem dX9_timeExchanged_30 : decode cX9_timeExchanged 30 = .ok (.getfield 42, 3) := by decide +kernel
theorem dX9_timeExchanged_33 : decode cX9_timeExchanged 33 = .ok (.getfield 132, 3) := by decide +kernel
theorem dX9_timeExchanged_36 : decode cX9_timeExchanged 36 = .ok (.invokevirtual 281, 3) := by decide +kernel
theorem dX9_timeExchanged_39 : decode cX9_timeExchanged 39 = .ok (.aload_n 0, 1) := by decide +kernel
theorem dX9_timeExchanged_40 : decode cX9_timeExchanged 40 = .ok (.getfield 49, 3) := by decide +kernel
theorem dX9_timeExchanged_43 : decode cX9_timeExchanged 43 = .ok (.iload_n 2, 1) := by decide +kernel
theorem dX9_timeExchanged_44 : decode cX9_timeExchanged 44 = .ok (.aload_n 0, 1) := by decide +kernel
theorem dX9_timeExchanged_45 : decode cX9_timeExchanged 45 = .ok (.getfield 78, 3) := by decide +kernel
theorem dX9_timeExchanged_48 : decode cX9_timeExchanged 48 = .ok (.iload_n 1, 1) := by decide +kernel
theorem dX9_timeExchanged_49 : decode cX9_timeExchanged 49 = .ok (.iaload, 1) := by decide +kernel
theorem dX9_timeExchanged_50 : decode cX9_timeExchanged 50 = .ok (.aload_n 0, 1) := by decide +kernel
theorem dX9_timeExchanged_51 : decode cX9_timeExchanged 51 = .ok (.getfield 42, 3) := by decide +kernel
theorem dX9_timeExchanged_54 : decode cX9_timeExchanged 54 = .ok (.getfield 132, 3) := by decide +kernel
theorem dX9_timeExchanged_57 : decode cX9_timeExchanged 57 = .ok (.invokevirtual 281, 3) := by decide +kernel
theorem dX9_timeExchanged_60 : decode cX9_timeExchanged 60 = .ok (.aload_n 0, 1) := by decide +kernel
theorem dX9_timeExchanged_61 : decode cX9_timeExchanged 61 = .ok (.getfield 49, 3) := by decide +kernel
theorem dX9_timeExchanged_64 : decode cX9_timeExchanged 64 = .ok (.aload_n 0, 1) := by decide +kernel
theorem dX9_timeExchanged_65 : decode cX9_timeExchanged 65 = .ok (.getfield 42, 3) := by decide +kernel
theorem dX9_timeExchanged_68 : decode cX9_timeExchanged 68 = .ok (.getfield 129, 3) := by decide +kernel
theorem dX9_timeExchanged_71 : decode cX9_timeExchanged 71 = .ok (.iconst 0, 1) := by decide +kernel
theorem dX9_timeExchanged_72 : decode cX9_timeExchanged 72 = .ok (.invokevirtual 285, 3) := by decide +kernel
theorem dX9_timeExchanged_75 : decode cX9_timeExchanged 75 = .ok (.ireturn, 1) := by decide +kernel
theorem dX9_exchange_0 : decode cX9_exchange 0 = .ok (.aload_n 0, 1) := by decide +kernel
theorem dX9_exchange_1 : decode cX9_exchange 1 = .ok (.getfield 78, 3) := by decide +kernel
theorem dX9_exchange_4 : decode cX9_exchange 4 = .ok (.iload_n 1, 1) := by decide +kernel
theorem dX9_exchange_5 : decode cX9_exchange 5 = .ok (.iaload, 1) := by decide +kernel
theorem dX9_exchange_6 : decode cX9_exchange 6 = .ok (.istore_n 3, 1) := by decide +kernel
theorem dX9_exchange_7 : decode cX9_exchange 7 = .ok (.aload_n 0, 1) := by decide +kernel
theorem dX9_exchange_8 : decode cX9_exchange 8 = .ok (.getfield 78, 3) := by decide +kernel
theorem dX9_exchange_11 : decode cX9_exchange 11 = .ok (.iload_n 1, 1) := by decide +kernel
theorem dX9_exchange_12 : decode cX9_exchange 12 = .ok (.aload_n 0, 1) := by decide +kernel
theorem dX9_exchange_13 : decode cX9_exchange 13 = .ok (.getfield 78, 3) := by decide +kernel
theorem dX9_exchange_16 : decode cX9_exchange 16 = .ok (.iload_n 2, 1) := by decide +kernel
theorem dX9_exchange_17 : decode cX9_exchange 17 = .ok (.iaload, 1) := by decide +kernel
theorem dX9_exchange_18 : decode cX9_exchange 18 = .ok (.iastore, 1) := by decide +kernel
theorem dX9_exchange_19 : decode cX9_exchange 19 = .ok (.aload_n 0, 1) := by decide +kernel
theorem dX9_exchange_20 : decode cX9_exchange 20 = .ok (.getfield 78, 3) := by decide +kernel
theorem dX9_exchange_23 : decode cX9_exchange 23 = .ok (.iload_n 2, 1) := by decide +kernel
theorem dX9_exchange_24 : decode cX9_exchange 24 = .ok (.iload_n 3, 1) := by decide +kernel
theorem dX9_exchange_25 : decode cX9_exchange 25 = .ok (.iastore, 1) := by decide +kernel
theorem dX9_exchange_26 : decode cX9_exchange 26 = .ok (.return_, 1) := by decide +kernel
theorem dX9_layBy_0 : decode cX9_layBy 0 = .ok (.iload_n 1, 1) := by decide +kernel
theorem dX9_layBy_1 : decode cX9_layBy 1 = .ok (.ifCond .ne 14, 3) := by decide +kernel
theorem dX9_layBy_4 : decode cX9_layBy 4 = .ok (.aload_n 0, 1) := by decide +kernel
theorem dX9_layBy_5 : decode cX9_layBy 5 = .ok (.getfield 58, 3) := by decide +kernel
theorem dX9_layBy_8 : decode cX9_layBy 8 = .ok (.aload_n 2, 1) := by decide +kernel
theorem dX9_layBy_9 : decode cX9_layBy 9 = .ok (.invokevirtual 110, 3) := by decide +kernel
theorem dX9_layBy_12 : decode cX9_layBy 12 = .ok (.goto 37, 3) := by decide +kernel
theorem dX9_layBy_15 : decode cX9_layBy 15 = .ok (.iload_n 1, 1) := by decide +kernel
theorem dX9_layBy_16 : decode cX9_layBy 16 = .ok (.iconst 1, 1) := by decide +kernel
theorem dX9_layBy_17 : decode cX9_layBy 17 = .ok (.if_icmp .ne 14, 3) := by decide +kernel
theorem dX9_layBy_20 : decode cX9_layBy 20 = .ok (.aload_n 0, 1) := by decide +kernel
theorem dX9_layBy_21 : decode cX9_layBy 21 = .ok (.getfield 58, 3) := by decide +kernel
theorem dX9_layBy_24 : decode cX9_layBy 24 = .ok (.aload_n 2, 1) := by decide +kernel
theorem dX9_layBy_25 : decode cX9_layBy 25 = .ok (.invokevirtual 289, 3) := by decide +kernel
theorem dX9_layBy_28 : decode cX9_layBy 28 = .ok (.goto 21, 3) := by decide +kernel
theorem dX9_layBy_31 : decode cX9_layBy 31 = .ok (.aload_n 0, 1) := by decide +kernel
theorem dX9_layBy_32 : decode cX9_layBy 32 = .ok (.getfield 67, 3) := by decide +kernel
theorem dX9_layBy_35 : decode cX9_layBy 35 = .ok (.invokevirtual 250, 3) := by decide +kernel
theorem dX9_layBy_38 : decode cX9_layBy 38 = .ok (.aload_n 0, 1) := by decide +kernel
theorem dX9_layBy_39 : decode cX9_layBy 39 = .ok (.getfield 67, 3) := by decide +kernel
theorem dX9_layBy_42 : decode cX9_layBy 42 = .ok (.getfield 292, 3) := by decide +kernel
theorem dX9_layBy_45 : decode cX9_layBy 45 = .ok (.aload_n 2, 1) := by decide +kernel
theorem dX9_layBy_46 : decode cX9_layBy 46 = .ok (.invokestatic 295, 3) := by decide +kernel
theorem dX9_layBy_49 : decode cX9_layBy 49 = .ok (.return_, 1) := by decide +kernel
theorem dX9_copyItems_0 : decode cX9_copyItems 0 = .ok (.aload_n 0, 1) := by decide +kernel
theorem dX9_copyItems_1 : decode cX9_copyItems 1 = .ok (.iconst 0, 1) := by decide +kernel
theorem dX9_copyItems_2 : decode cX9_copyItems 2 = .ok (.aload_n 1, 1) := by decide +kernel
theorem dX9_copyItems_3 : decode cX9_copyItems 3 = .ok (.iconst 0, 1) := by decide +kernel
theorem dX9_copyItems_4 : decode cX9_copyItems 4 = .ok (.bipush 20, 2) := by decide +kernel
theorem dX9_copyItems_6 : decode cX9_copyItems 6 = .ok (.invokestatic 299, 3) := by decide +kernel
theorem dX9_copyItems_9 : decode cX9_copyItems 9 = .ok (.return_, 1) := by decide +kernel
theorem dX9_isQuick_0 : decode cX9_isQuick 0 = .ok (.iload_n 0, 1) := by decide +kernel
theorem dX9_isQuick_1 : decode cX9_isQuick 1 = .ok (.ifCond .eq 18, 3) := by decide +kernel
theorem dX9_isQuick_4 : decode cX9_isQuick 4 = .ok (.iload_n 0, 1) := by decide +kernel
theorem dX9_isQuick_5 : decode cX9_isQuick 5 = .ok (.ifCond .le 18, 3) := by decide +kernel
theorem dX9_isQuick_8 : decode cX9_isQuick 8 = .ok (.iload_n 0, 1) := by decide +kernel
theorem dX9_isQuick_9 : decode cX9_isQuick 9 = .ok (.iload_n 1, 1) := by decide +kernel
theorem dX9_isQuick_10 : decode cX9_isQuick 10 = .ok (.if_icmp .ge 13, 3) := by decide +kernel
theorem dX9_isQuick_13 : decode cX9_isQuick 13 = .ok (.iload_n 1, 1) := by decide +kernel
theorem dX9_isQuick_14 : decode cX9_isQuick 14 = .ok (.iload_n 0, 1) := by decide +kernel
theorem dX9_isQuick_15 : decode cX9_isQuick 15 = .ok (.irem, 1) := by decide +kernel
theorem dX9_isQuick_16 : decode cX9_isQuick 16 = .ok (.ifCond .ne 7, 3) := by decide +kernel
theorem dX9_isQuick_19 : decode cX9_isQuick 19 = .ok (.iconst 1, 1) := by decide +kernel
theorem dX9_isQuick_20 : decode cX9_isQuick 20 = .ok (.goto 4, 3) := by decide +kernel
theorem dX9_isQuick_23 : decode cX9_isQuick 23 = .ok (.iconst 0, 1) := by decide +kernel
theorem dX9_isQuick_24 : decode cX9_isQuick 24 = .ok (.ireturn, 1) := by decide +kernel
theorem dX10_in_0 : decode cX10_in 0 = .ok (.lload_n 0, 1) := by decide +kernel
theorem dX10_in_1 : decode cX10_in 1 = .ok (.lload_n 2, 1) := by decide +kernel
theorem dX10_in_2 : decode cX10_in 2 = .ok (.lcmp, 1) := by decide +kernel
theorem dX10_in_3 : decode cX10_in 3 = .ok (.ifCond .lt 14, 3) := by decide +kernel
theorem dX10_in_6 : decode cX10_in 6 = .ok (.lload_n 0, 1) := by decide +kernel
theorem dX10_in_7 : decode cX10_in 7 = .ok (.lload 4, 2) := by decide +kernel
theorem dX10_in_9 : decode cX10_in 9 = .ok (.lcmp, 1) := by decide +kernel
theorem dX10_in_10 : decode cX10_in 10 = .ok (.ifCond .gt 7, 3) := by decide +kernel
theorem dX10_in_13 : decode cX10_in 13 = .ok (.iconst 1, 1) := by decide +kernel
theorem dX10_in_14 : decode cX10_in 14 = .ok (.goto 4, 3) := by decide +kernel
theorem dX10_in_17 : decode cX10_in 17 = .ok (.iconst 0, 1) := by decide +kernel
theorem dX10_in_18 : decode cX10_in 18 = .ok (.ireturn, 1) := by decide +kernel
theorem dX10_init_0 : decode cX10_init 0 = .ok (.aload_n 0, 1) := by decide +kernel
theorem dX10_init_1 : decode cX10_init 1 = .ok (.invokespecial 1, 3) := by decide +kernel
theorem dX10_init_4 : decode cX10_init 4 = .ok (.aload_n 0, 1) := by decide +kernel
theorem dX10_init_5 : decode cX10_init 5 = .ok (.sipush 169, 3) := by decide +kernel
theorem dX10_init_8 : decode cX10_init 8 = .ok (.newarray .int, 2) := by decide +kernel
theorem dX10_init_10 : decode cX10_init 10 = .ok (.putfield 7, 3) := by decide +kernel
theorem dX10_init_13 : decode cX10_init 13 = .ok (.aload_n 0, 1) := by decide +kernel
theorem dX10_init_14 : decode cX10_init 14 = .ok (.sipush 169, 3) := by decide +kernel
theorem dX10_init_17 : decode cX10_init 17 = .ok (.newarray .int, 2) := by decide +kernel
theorem dX10_init_19 : decode cX10_init 19 = .ok (.putfield 13, 3) := by decide +kernel
theorem dX10_init_22 : decode cX10_init 22 = .ok (.aload_n 0, 1) := by decide +kernel
theorem dX10_init_23 : decode cX10_init 23 = .ok (.sipush 400, 3) := by decide +kernel
theorem dX10_init_26 : decode cX10_init 26 = .ok (.newarray .int, 2) := by decide +kernel
theorem dX10_init_28 : decode cX10_init 28 = .ok (.putfield 16, 3) := by decide +kernel
theorem dX10_init_31 : decode cX10_init 31 = .ok (.aload_n 0, 1) := by decide +kernel
theorem dX10_init_32 : decode cX10_init 32 = .ok (.sipush 700, 3) := by decide +kernel
theorem dX10_init_35 : decode cX10_init 35 = .ok (.newarray .int, 2) := by decide +kernel
theorem dX10_init_37 : decode cX10_init 37 = .ok (.putfield 19, 3) := by decide +kernel
theorem dX10_init_40 : decode cX10_init 40 = .ok (.aload_n 0, 1) := by decide +kernel
theorem dX10_init_41 : decode cX10_init 41 = .ok (.iconst (-1), 1) := by decide +kernel
theorem dX10_init_42 : decode cX10_init 42 = .ok (.putfield 22, 3) := by decide +kernel
theorem dX10_init_45 : decode cX10_init 45 = .ok (.aload_n 0, 1) := by decide +kernel
theorem dX10_init_46 : decode cX10_init 46 = .ok (.bipush 20, 2) := by decide +kernel
theorem dX10_init_48 : decode cX10_init 48 = .ok (.newarray .int, 2) := by decide +kernel
theorem dX10_init_50 : decode cX10_init 50 = .ok (.putfield 26, 3) := by decide +kernel
theorem dX10_init_53 : decode cX10_init 53 = .ok (.aload_n 0, 1) := by decide +kernel
theorem dX10_init_54 : decode cX10_init 54 = .ok (.bipush 20, 2) := by decide +kernel
theorem dX10_init_56 : decode cX10_init 56 = .ok (.newarray .int, 2) := by decide +kernel
theorem dX10_init_58 : decode cX10_init 58 = .ok (.putfield 29, 3) := by decide +kernel
theorem dX10_init_61 : decode cX10_init 61 = .ok (.aload_n 0, 1) := by decide +kernel
theorem dX10_init_62 : decode cX10_init 62 = .ok (.bipush 24, 2) := by decide +kernel
theorem dX10_init_64 : decode cX10_init 64 = .ok (.newarray .int, 2) := by decide +kernel
theorem dX10_init_66 : decode cX10_init 66 = .ok (.putfield 32, 3) := by decide +kernel
theorem dX10_init_69 : decode cX10_init 69 = .ok (.aload_n 0, 1) := by decide +kernel
theorem dX10_init_70 : decode cX10_init 70 = .ok (.bipush 24, 2) := by decide +kernel
theorem dX10_init_72 : decode cX10_init 72 = .ok (.newarray .int, 2) := by decide +kernel
theorem dX10_init_74 : decode cX10_init 74 = .ok (.putfield 35, 3) := by decide +kernel
theorem dX10_init_77 : decode cX10_init 77 = .ok (.aload_n 0, 1) := by decide +kernel
theorem dX10_init_78 : decode cX10_init 78 = .ok (.bipush 24, 2) := by decide +kernel
theorem dX10_init_80 : decode cX10_init 80 = .ok (.newarray .int, 2) := by decide +kernel
theorem dX10_init_82 : decode cX10_init 82 = .ok (.putfield 38, 3) := by decide +kernel
theorem dX10_init_85 : decode cX10_init 85 = .ok (.aload_n 0, 1) := by decide +kernel
theorem dX10_init_86 : decode cX10_init 86 = .ok (.bipush 24, 2) := by decide +kernel
theorem dX10_init_88 : decode cX10_init 88 = .ok (.newarray .boolean, 2) := by decide +kernel
theorem dX10_init_90 : decode cX10_init 90 = .ok (.putfield 41, 3) := by decide +kernel
theorem dX10_init_93 : decode cX10_init 93 = .ok (.aload_n 0, 1) := by decide +kernel
theorem dX10_init_94 : decode cX10_init 94 = .ok (.sipush 200, 3) := by decide +kernel
theorem dX10_init_97 : decode cX10_init 97 = .ok (.newarray .int, 2) := by decide +kernel
theorem dX10_init_99 : decode cX10_init 99 = .ok (.putfield 45, 3) := by decide +kernel
theorem dX10_init_102 : decode cX10_init 102 = .ok (.aload_n 0, 1) := by decide +kernel
theorem dX10_init_103 : decode cX10_init 103 = .ok (.sipush 200, 3) := by decide +kernel
theorem dX10_init_106 : decode cX10_init 106 = .ok (.newarray .int, 2) := by decide +kernel
theorem dX10_init_108 : decode cX10_init 108 = .ok (.putfield 48, 3) := by decide +kernel
theorem dX10_init_111 : decode cX10_init 111 = .ok (.aload_n 0, 1) := by decide +kernel
theorem dX10_init_112 : decode cX10_init 112 = .ok (.sipush 200, 3) := by decide +kernel
theorem dX10_init_115 : decode cX10_init 115 = .ok (.newarray .int, 2) := by decide +kernel
theorem dX10_init_117 : decode cX10_init 117 = .ok (.putfield 51, 3) := by decide +kernel
theorem dX10_init_120 : decode cX10_init 120 = .ok (.aload_n 0, 1) := by decide +kernel
theorem dX10_init_121 : decode cX10_init 121 = .ok (.bipush 100, 2) := by decide +kernel
theorem dX10_init_123 : decode cX10_init 123 = .ok (.newarray .int, 2) := by decide +kernel
theorem dX10_init_125 : decode cX10_init 125 = .ok (.putfield 54, 3) := by decide +kernel
theorem dX10_init_128 : decode cX10_init 128 = .ok (.aload_n 0, 1) := by decide +kernel
theorem dX10_init_129 : decode cX10_init 129 = .ok (.bipush 100, 2) := by decide +kernel
theorem dX10_init_131 : decode cX10_init 131 = .ok (.newarray .int, 2) := by decide +kernel
theorem dX10_init_133 : decode cX10_init 133 = .ok (.putfield 57, 3) := by decide +kernel
theorem dX10_init_136 : decode cX10_init 136 = .ok (.aload_n 0, 1) := by decide +kernel
theorem dX10_init_137 : decode cX10_init 137 = .ok (.bipush 100, 2) := by decide +kernel
theorem dX10_init_139 : decode cX10_init 139 = .ok (.newarray .int, 2) := by decide +kernel
theorem dX10_init_141 : decode cX10_init 141 = .ok (.putfield 60, 3) := by decide +kernel
theorem dX10_init_144 : decode cX10_init 144 = .ok (.aload_n 0, 1) := by decide +kernel
theorem dX10_init_145 : decode cX10_init 145 = .ok (.bipush 100, 2) := by decide +kernel
theorem dX10_init_147 : decode cX10_init 147 = .ok (.newarray .int, 2) := by decide +kernel
theorem dX10_init_149 : decode cX10_init 149 = .ok (.putfield 63, 3) := by decide +kernel
theorem dX10_init_152 : decode cX10_init 152 = .ok (.aload_n 0, 1) := by decide +kernel
theorem dX10_init_153 : decode cX10_init 153 = .ok (.bipush 20, 2) := by decide +kernel
theorem dX10_init_155 : decode cX10_init 155 = .ok (.newarray .int, 2) := by decide +kernel
theorem dX10_init_157 : decode cX10_init 157 = .ok (.putfield 66, 3) := by decide +kernel
theorem dX10_init_160 : decode cX10_init 160 = .ok (.aload_n 0, 1) := by decide +kernel
theorem dX10_init_161 : decode cX10_init 161 = .ok (.bipush 20, 2) := by decide +kernel
theorem dX10_init_163 : decode cX10_init 163 = .ok (.newarray .int, 2) := by decide +kernel
theorem dX10_init_165 : decode cX10_init 165 = .ok (.putfield 69, 3) := by decide +kernel
theorem dX10_init_168 : decode cX10_init 168 = .ok (.aload_n 0, 1) := by decide +kernel
theorem dX10_init_169 : decode cX10_init 169 = .ok (.bipush 20, 2) := by decide +kernel
theorem dX10_init_171 : decode cX10_init 171 = .ok (.newarray .int, 2) := by decide +kernel
theorem dX10_init_173 : decode cX10_init 173 = .ok (.putfield 72, 3) := by decide +kernel
theorem dX10_init_176 : decode cX10_init 176 = .ok (.aload_n 0, 1) := by decide +kernel
theorem dX10_init_177 : decode cX10_init 177 = .ok (.bipush 20, 2) := by decide +kernel
theorem dX10_init_179 : decode cX10_init 179 = .ok (.newarray .int, 2) := by decide +kernel
theorem dX10_init_181 : decode cX10_init 181 = .ok (.putfield 75, 3) := by decide +kernel
theorem dX10_init_184 : decode cX10_init 184 = .ok (.aload_n 0, 1) := by decide +kernel
theorem dX10_init_185 : decode cX10_init 185 = .ok (.bipush 20, 2) := by decide +kernel
theorem dX10_init_187 : decode cX10_init 187 = .ok (.newarray .int, 2) := by decide +kernel
theorem dX10_init_189 : decode cX10_init 189 = .ok (.putfield 78, 3) := by decide +kernel
theorem dX10_init_192 : decode cX10_init 192 = .ok (.aload_n 0, 1) := by decide +kernel
theorem dX10_init_193 : decode cX10_init 193 = .ok (.bipush 48, 2) := by decide +kernel
theorem dX10_init_195 : decode cX10_init 195 = .ok (.newarray .int, 2) := by decide +kernel
theorem dX10_init_197 : decode cX10_init 197 = .ok (.putfield 81, 3) := by decide +kernel
theorem dX10_init_200 : decode cX10_init 200 = .ok (.aload_n 0, 1) := by decide +kernel
theorem dX10_init_201 : decode cX10_init 201 = .ok (.bipush 24, 2) := by decide +kernel
theorem dX10_init_203 : decode cX10_init 203 = .ok (.newarray .int, 2) := by decide +kernel
theorem dX10_init_205 : decode cX10_init 205 = .ok (.putfield 84, 3) := by decide +kernel
theorem dX10_init_208 : decode cX10_init 208 = .ok (.aload_n 0, 1) := by decide +kernel
theorem dX10_init_209 : decode cX10_init 209 = .ok (.iconst 4, 1) := by decide +kernel
theorem dX10_init_210 : decode cX10_init 210 = .ok (.newarray .int, 2) := by decide +kernel
theorem dX10_init_212 : decode cX10_init 212 = .ok (.putfield 87, 3) := by decide +kernel
theorem dX10_init_215 : decode cX10_init 215 = .ok (.aload_n 0, 1) := by decide +kernel
theorem dX10_init_216 : decode cX10_init 216 = .ok (.iconst 4, 1) := by decide +kernel
theorem dX10_init_217 : decode cX10_init 217 = .ok (.newarray .int, 2) := by decide +kernel
theorem dX10_init_219 : decode cX10_init 219 = .ok (.putfield 90, 3) := by decide +kernel
theorem dX10_init_222 : decode cX10_init 222 = .ok (.return_, 1) := by decide +kernel
theorem dX10_feed_0 : decode cX10_feed 0 = .ok (.aload_n 0, 1) := by decide +kernel
theorem dX10_feed_1 : decode cX10_feed 1 = .ok (.getfield 93, 3) := by decide +kernel
theorem dX10_feed_4 : decode cX10_feed 4 = .ok (.sipush 680, 3) := by decide +kernel
theorem dX10_feed_7 : decode cX10_feed 7 = .ok (.if_icmp .le 5, 3) := by decide +kernel
theorem dX10_feed_10 : decode cX10_feed 10 = .ok (.iconst (-1), 1) := by decide +kernel
theorem dX10_feed_11 : decode cX10_feed 11 = .ok (.ireturn, 1) := by decide +kernel
theorem dX10_feed_12 : decode cX10_feed 12 = .ok (.iconst 5, 1) := by decide +kernel
theorem dX10_feed_13 : decode cX10_feed 13 = .ok (.newarray .int, 2) := by decide +kernel
theorem dX10_feed_15 : decode cX10_feed 15 = .ok (.dup, 1) := by decide +kernel
theorem dX10_feed_16 : decode cX10_feed 16 = .ok (.iconst 0, 1) := by decide +kernel
theorem dX10_feed_17 : decode cX10_feed 17 = .ok (.iload_n 1, 1) := by decide +kernel
theorem dX10_feed_18 : decode cX10_feed 18 = .ok (.iastore, 1) := by decide +kernel
theorem dX10_feed_19 : decode cX10_feed 19 = .ok (.dup, 1) := by decide +kernel
theorem dX10_feed_20 : decode cX10_feed 20 = .ok (.iconst 1, 1) := by decide +kernel
theorem dX10_feed_21 : decode cX10_feed 21 = .ok (.iload_n 2, 1) := by decide +kernel
theorem dX10_feed_22 : decode cX10_feed 22 = .ok (.iastore, 1) := by decide +kernel
theorem dX10_feed_23 : decode cX10_feed 23 = .ok (.dup, 1) := by decide +kernel
theorem dX10_feed_24 : decode cX10_feed 24 = .ok (.iconst 2, 1) := by decide +kernel
theorem dX10_feed_25 : decode cX10_feed 25 = .ok (.iload_n 3, 1) := by decide +kernel
theorem dX10_feed_26 : decode cX10_feed 26 = .ok (.iastore, 1) := by decide +kernel
theorem dX10_feed_27 : decode cX10_feed 27 = .ok (.dup, 1) := by decide +kernel
theorem dX10_feed_28 : decode cX10_feed 28 = .ok (.iconst 3, 1) := by decide +kernel
theorem dX10_feed_29 : decode cX10_feed 29 = .ok (.iload 4, 2) := by decide +kernel
theorem dX10_feed_31 : decode cX10_feed 31 = .ok (.iastore, 1) := by decide +kernel
theorem dX10_feed_32 : decode cX10_feed 32 = .ok (.dup, 1) := by decide +kernel
theorem dX10_feed_33 : decode cX10_feed 33 = .ok (.iconst 4, 1) := by decide +kernel
theorem dX10_feed_34 : decode cX10_feed 34 = .ok (.iload 5, 2) := by decide +kernel
theorem dX10_feed_36 : decode cX10_feed 36 = .ok (.iastore, 1) := by decide +kernel
theorem dX10_feed_37 : decode cX10_feed 37 = .ok (.astore 6, 2) := by decide +kernel
theorem dX10_feed_39 : decode cX10_feed 39 = .ok (.iconst 0, 1) := by decide +kernel
theorem dX10_feed_40 : decode cX10_feed 40 = .ok (.istore 7, 2) := by decide +kernel
theorem dX10_feed_42 : decode cX10_feed 42 = .ok (.iload 7, 2) := by decide +kernel
theorem dX10_feed_44 : decode cX10_feed 44 = .ok (.bipush 20, 2) := by decide +kernel
theorem dX10_feed_46 : decode cX10_feed 46 = .ok (.if_icmp .ge 43, 3) := by decide +kernel
theorem dX10_feed_49 : decode cX10_feed 49 = .ok (.aload_n 0, 1) := by decide +kernel
theorem dX10_feed_50 : decode cX10_feed 50 = .ok (.getfield 19, 3) := by decide +kernel
theorem dX10_feed_53 : decode cX10_feed 53 = .ok (.aload_n 0, 1) := by decide +kernel
theorem dX10_feed_54 : decode cX10_feed 54 = .ok (.getfield 93, 3) := by decide +kernel
theorem dX10_feed_57 : decode cX10_feed 57 = .ok (.iload 7, 2) := by decide +kernel
theorem dX10_feed_59 : decode cX10_feed 59 = .ok (.iadd, 1) := by decide +kernel
theorem dX10_feed_60 : decode cX10_feed 60 = .ok (.aload 6, 2) := by decide +kernel
theorem dX10_feed_62 : decode cX10_feed 62 = .ok (.iload 7, 2) := by decide +kernel
theorem dX10_feed_64 : decode cX10_feed 64 = .ok (.iconst 4, 1) := by decide +kernel
theorem dX10_feed_65 : decode cX10_feed 65 = .ok (.idiv, 1) := by decide +kernel
theorem dX10_feed_66 : decode cX10_feed 66 = .ok (.iaload, 1) := by decide +kernel
theorem dX10_feed_67 : decode cX10_feed 67 = .ok (.bipush 24, 2) := by decide +kernel
theorem dX10_feed_69 : decode cX10_feed 69 = .ok (.bipush 8, 2) := by decide +kernel
theorem dX10_feed_71 : decode cX10_feed 71 = .ok (.iload 7, 2) := by decide +kernel
theorem dX10_feed_73 : decode cX10_feed 73 = .ok (.iconst 4, 1) := by decide +kernel
theorem dX10_feed_74 : decode cX10_feed 74 = .ok (.irem, 1) := by decide +kernel
theorem dX10_feed_75 : decode cX10_feed 75 = .ok (.imul, 1) := by decide +kernel
theorem dX10_feed_76 : decode cX10_feed 76 = .ok (.isub, 1) := by decide +kernel
theorem dX10_feed_77 : decode cX10_feed 77 = .ok (.iushr, 1) := by decide +kernel
theorem dX10_feed_78 : decode cX10_feed 78 = .ok (.sipush 255, 3) := by decide +kernel
theorem dX10_feed_81 : decode cX10_feed 81 = .ok (.iand, 1) := by decide +kernel
theorem dX10_feed_82 : decode cX10_feed 82 = .ok (.iastore, 1) := by decide +kernel
theorem dX10_feed_83 : decode cX10_feed 83 = .ok (.iinc 7 1, 3) := by decide +kernel
theorem dX10_feed_86 : decode cX10_feed 86 = .ok (.goto (-44), 3) := by decide +kernel
theorem dX10_feed_89 : decode cX10_feed 89 = .ok (.aload_n 0, 1) := by decide +kernel
theorem dX10_feed_90 : decode cX10_feed 90 = .ok (.dup, 1) := by decide +kernel
theorem dX10_feed_91 : decode cX10_feed 91 = .ok (.getfield 93, 3) := by decide +kernel
theorem dX10_feed_94 : decode cX10_feed 94 = .ok (.bipush 20, 2) := by decide +kernel
theorem dX10_feed_96 : decode cX10_feed 96 = .ok (.iadd, 1) := by decide +kernel
theorem dX10_feed_97 : decode cX10_feed 97 = .ok (.putfield 93, 3) := by decide +kernel
theorem dX10_feed_100 : decode cX10_feed 100 = .ok (.aload_n 0, 1) := by decide +kernel
theorem dX10_feed_101 : decode cX10_feed 101 = .ok (.getfield 93, 3) := by decide +kernel
theorem dX10_feed_104 : decode cX10_feed 104 = .ok (.ireturn, 1) := by decide +kernel
theorem dX10_end_0 : decode cX10_end 0 = .ok (.iload_n 1, 1) := by decide +kernel
theorem dX10_end_1 : decode cX10_end 1 = .ok (.i2l, 1) := by decide +kernel
theorem dX10_end_2 : decode cX10_end 2 = .ok (.lconst 0, 1) := by decide +kernel
theorem dX10_end_3 : decode cX10_end 3 = .ok (.aload_n 0, 1) := by decide +kernel
theorem dX10_end_4 : decode cX10_end 4 = .ok (.getfield 93, 3) := by decide +kernel
theorem dX10_end_7 : decode cX10_end 7 = .ok (.i2l, 1) := by decide +kernel
theorem dX10_end_8 : decode cX10_end 8 = .ok (.invokestatic 96, 3) := by decide +kernel
theorem dX10_end_11 : decode cX10_end 11 = .ok (.ifCond .ne 5, 3) := by decide +kernel
theorem dX10_end_14 : decode cX10_end 14 = .ok (.iconst (-1), 1) := by decide +kernel
theorem dX10_end_15 : decode cX10_end 15 = .ok (.ireturn, 1) := by decide +kernel
theorem dX10_end_16 : decode cX10_end 16 = .ok (.aload_n 0, 1) := by decide +kernel
theorem dX10_end_17 : decode cX10_end 17 = .ok (.iload_n 1, 1) := by decide +kernel
theorem dX10_end_18 : decode cX10_end 18 = .ok (.putfield 93, 3) := by decide +kernel
theorem dX10_end_21 : decode cX10_end 21 = .ok (.iload_n 1, 1) := by decide +kernel
theorem dX10_end_22 : decode cX10_end 22 = .ok (.ireturn, 1) := by decide +kernel
theorem dX10_isAt_0 : decode cX10_isAt 0 = .ok (.aload_n 0, 1) := by decide +kernel
theorem dX10_isAt_1 : decode cX10_isAt 1 = .ok (.getfield 100, 3) := by decide +kernel
theorem dX10_isAt_4 : decode cX10_isAt 4 = .ok (.aload_n 0, 1) := by decide +kernel
theorem dX10_isAt_5 : decode cX10_isAt 5 = .ok (.getfield 93, 3) := by decide +kernel
theorem dX10_isAt_8 : decode cX10_isAt 8 = .ok (.if_icmp .ge 27, 3) := by decide +kernel
theorem dX10_isAt_11 : decode cX10_isAt 11 = .ok (.aload_n 0, 1) := by decide +kernel
theorem dX10_isAt_12 : decode cX10_isAt 12 = .ok (.getfield 19, 3) := by decide +kernel
theorem dX10_isAt_15 : decode cX10_isAt 15 = .ok (.aload_n 0, 1) := by decide +kernel
theorem dX10_isAt_16 : decode cX10_isAt 16 = .ok (.getfield 100, 3) := by decide +kernel
theorem dX10_isAt_19 : decode cX10_isAt 19 = .ok (.iaload, 1) := by decide +kernel
theorem dX10_isAt_20 : decode cX10_isAt 20 = .ok (.i2l, 1) := by decide +kernel
theorem dX10_isAt_21 : decode cX10_isAt 21 = .ok (.iload_n 1, 1) := by decide +kernel
theorem dX10_isAt_22 : decode cX10_isAt 22 = .ok (.i2l, 1) := by decide +kernel
theorem dX10_isAt_23 : decode cX10_isAt 23 = .ok (.iload_n 2, 1) := by decide +kernel
theorem dX10_isAt_24 : decode cX10_isAt 24 = .ok (.i2l, 1) := by decide +kernel
theorem dX10_isAt_25 : decode cX10_isAt 25 = .ok (.invokestatic 96, 3) := by decide +kernel
theorem dX10_isAt_28 : decode cX10_isAt 28 = .ok (.ifCond .eq 7, 3) := by decide +kernel
theorem dX10_isAt_31 : decode cX10_isAt 31 = .ok (.iconst 1, 1) := by decide +kernel
theorem dX10_isAt_32 : decode cX10_isAt 32 = .ok (.goto 4, 3) := by decide +kernel
theorem dX10_isAt_35 : decode cX10_isAt 35 = .ok (.iconst 0, 1) := by decide +kernel
theorem dX10_isAt_36 : decode cX10_isAt 36 = .ok (.ireturn, 1) := by decide +kernel
theorem dX10_next_0 : decode cX10_next 0 = .ok (.aload_n 0, 1) := by decide +kernel
theorem dX10_next_1 : decode cX10_next 1 = .ok (.bipush 32, 2) := by decide +kernel
theorem dX10_next_3 : decode cX10_next 3 = .ok (.bipush 32, 2) := by decide +kernel
theorem dX10_next_5 : decode cX10_next 5 = .ok (.invokevirtual 103, 3) := by decide +kernel
theorem dX10_next_8 : decode cX10_next 8 = .ok (.ifCond .ne 14, 3) := by decide +kernel
theorem dX10_next_11 : decode cX10_next 11 = .ok (.aload_n 0, 1) := by decide +kernel
theorem dX10_next_12 : decode cX10_next 12 = .ok (.bipush 10, 2) := by decide +kernel
theorem dX10_next_14 : decode cX10_next 14 = .ok (.bipush 10, 2) := by decide +kernel
theorem dX10_next_16 : decode cX10_next 16 = .ok (.invokevirtual 103, 3) := by decide +kernel
theorem dX10_next_19 : decode cX10_next 19 = .ok (.ifCond .eq 16, 3) := by decide +kernel
theorem dX10_next_22 : decode cX10_next 22 = .ok (.aload_n 0, 1) := by decide +kernel
theorem dX10_next_23 : decode cX10_next 23 = .ok (.dup, 1) := by decide +kernel
theorem dX10_next_24 : decode cX10_next 24 = .ok (.getfield 100, 3) := by decide +kernel
theorem dX10_next_27 : decode cX10_next 27 = .ok (.iconst 1, 1) := by decide +kernel
theorem dX10_next_28 : decode cX10_next 28 = .ok (.iadd, 1) := by decide +kernel
theorem dX10_next_29 : decode cX10_next 29 = .ok (.putfield 100, 3) := by decide +kernel
theorem dX10_next_32 : decode cX10_next 32 = .ok (.goto (-32), 3) := by decide +kernel
theorem dX10_next_35 : decode cX10_next 35 = .ok (.aload_n 0, 1) := by decide +kernel
theorem dX10_next_36 : decode cX10_next 36 = .ok (.aload_n 0, 1) := by decide +kernel
theorem dX10_next_37 : decode cX10_next 37 = .ok (.getfield 100, 3) := by decide +kernel
