theorem dX8_readNumber_125 : decode cX8_readNumber 125 = .ok (.putfield 31, 3) := by decide +kernel
theorem dX8_readNumber_128 : decode cX8_readNumber 128 = .ok (.return_, 1) := by decide +kernel
theorem dX8_sign_0 : decode cX8_sign 0 = .ok (.aload_n 0, 1) := by decide +kernel
theorem dX8_sign_1 : decode cX8_sign 1 = .ok (.getfield 22, 3) := by decide +kernel
theorem dX8_sign_4 : decode cX8_sign 4 = .ok (.ifCond .lt 36, 3) := by decide +kernel
theorem dX8_sign_7 : decode cX8_sign 7 = .ok (.aload_n 0, 1) := by decide +kernel
theorem dX8_sign_8 : decode cX8_sign 8 = .ok (.getfield 22, 3) := by decide +kernel
theorem dX8_sign_11 : decode cX8_sign 11 = .ok (.aload_n 0, 1) := by decide +kernel
theorem dX8_sign_12 : decode cX8_sign 12 = .ok (.getfield 19, 3) := by decide +kernel
theorem dX8_sign_15 : decode cX8_sign 15 = .ok (.if_icmp .ge 25, 3) := by decide +kernel
theorem dX8_sign_18 : decode cX8_sign 18 = .ok (.aload_n 0, 1) := by decide +kernel
theorem dX8_sign_19 : decode cX8_sign 19 = .ok (.getfield 22, 3) := by decide +kernel
theorem dX8_sign_22 : decode cX8_sign 22 = .ok (.sipush 700, 3) := by decide +kernel
theorem dX8_sign_25 : decode cX8_sign 25 = .ok (.if_icmp .ge 15, 3) := by decide +kernel
theorem dX8_sign_28 : decode cX8_sign 28 = .ok (.aload_n 0, 1) := by decide +kernel
theorem dX8_sign_29 : decode cX8_sign 29 = .ok (.getfield 9, 3) := by decide +kernel
theorem dX8_sign_32 : decode cX8_sign 32 = .ok (.aload_n 0, 1) := by decide +kernel
theorem dX8_sign_33 : decode cX8_sign 33 = .ok (.getfield 22, 3) := by decide +kernel
theorem dX8_sign_36 : decode cX8_sign 36 = .ok (.baload, 1) := by decide +kernel
theorem dX8_sign_37 : decode cX8_sign 37 = .ok (.goto 4, 3) := by decide +kernel
theorem dX8_sign_40 : decode cX8_sign 40 = .ok (.iconst 0, 1) := by decide +kernel
theorem dX8_sign_41 : decode cX8_sign 41 = .ok (.ireturn, 1) := by decide +kernel
theorem dX8_isBlank_0 : decode cX8_isBlank 0 = .ok (.iload_n 0, 1) := by decide +kernel
theorem dX8_isBlank_1 : decode cX8_isBlank 1 = .ok (.bipush 10, 2) := by decide +kernel
theorem dX8_isBlank_3 : decode cX8_isBlank 3 = .ok (.if_icmp .eq 9, 3) := by decide +kernel
theorem dX8_isBlank_6 : decode cX8_isBlank 6 = .ok (.iload_n 0, 1) := by decide +kernel
theorem dX8_isBlank_7 : decode cX8_isBlank 7 = .ok (.bipush 32, 2) := by decide +kernel
theorem dX8_isBlank_9 : decode cX8_isBlank 9 = .ok (.if_icmp .ne 7, 3) := by decide +kernel
theorem dX8_isBlank_12 : decode cX8_isBlank 12 = .ok (.iconst 1, 1) := by decide +kernel
theorem dX8_isBlank_13 : decode cX8_isBlank 13 = .ok (.goto 4, 3) := by decide +kernel
theorem dX8_isBlank_16 : decode cX8_isBlank 16 = .ok (.iconst 0, 1) := by decide +kernel
theorem dX8_isBlank_17 : decode cX8_isBlank 17 = .ok (.ireturn, 1) := by decide +kernel
theorem dX8_isLetter_0 : decode cX8_isLetter 0 = .ok (.iload_n 0, 1) := by decide +kernel
theorem dX8_isLetter_1 : decode cX8_isLetter 1 = .ok (.bipush 97, 2) := by decide +kernel
theorem dX8_isLetter_3 : decode cX8_isLetter 3 = .ok (.if_icmp .lt 13, 3) := by decide +kernel
theorem dX8_isLetter_6 : decode cX8_isLetter 6 = .ok (.iload_n 0, 1) := by decide +kernel
theorem dX8_isLetter_7 : decode cX8_isLetter 7 = .ok (.bipush 122, 2) := by decide +kernel
theorem dX8_isLetter_9 : decode cX8_isLetter 9 = .ok (.if_icmp .gt 7, 3) := by decide +kernel
theorem dX8_isLetter_12 : decode cX8_isLetter 12 = .ok (.iconst 1, 1) := by decide +kernel
theorem dX8_isLetter_13 : decode cX8_isLetter 13 = .ok (.goto 4, 3) := by decide +kernel
theorem dX8_isLetter_16 : decode cX8_isLetter 16 = .ok (.iconst 0, 1) := by decide +kernel
theorem dX8_isLetter_17 : decode cX8_isLetter 17 = .ok (.ireturn, 1) := by decide +kernel
theorem dX8_isDigit_0 : decode cX8_isDigit 0 = .ok (.iload_n 0, 1) := by decide +kernel
theorem dX8_isDigit_1 : decode cX8_isDigit 1 = .ok (.bipush 48, 2) := by decide +kernel
theorem dX8_isDigit_3 : decode cX8_isDigit 3 = .ok (.if_icmp .lt 13, 3) := by decide +kernel
theorem dX8_isDigit_6 : decode cX8_isDigit 6 = .ok (.iload_n 0, 1) := by decide +kernel
theorem dX8_isDigit_7 : decode cX8_isDigit 7 = .ok (.bipush 57, 2) := by decide +kernel
theorem dX8_isDigit_9 : decode cX8_isDigit 9 = .ok (.if_icmp .gt 7, 3) := by decide +kernel
theorem dX8_isDigit_12 : decode cX8_isDigit 12 = .ok (.iconst 1, 1) := by decide +kernel
theorem dX8_isDigit_13 : decode cX8_isDigit 13 = .ok (.goto 4, 3) := by decide +kernel
theorem dX8_isDigit_16 : decode cX8_isDigit 16 = .ok (.iconst 0, 1) := by decide +kernel
theorem dX8_isDigit_17 : decode cX8_isDigit 17 = .ok (.ireturn, 1) := by decide +kernel
theorem dX9_init_0 : decode cX9_init 0 = .ok (.aload_n 0, 1) := by decide +kernel
theorem dX9_init_1 : decode cX9_init 1 = .ok (.invokespecial 3, 3) := by decide +kernel
theorem dX9_init_4 : decode cX9_init 4 = .ok (.aload_n 0, 1) := by decide +kernel
theorem dX9_init_5 : decode cX9_init 5 = .ok (.bipush 8, 2) := by decide +kernel
theorem dX9_init_7 : decode cX9_init 7 = .ok (.newarray .int, 2) := by decide +kernel
theorem dX9_init_9 : decode cX9_init 9 = .ok (.putfield 9, 3) := by decide +kernel
theorem dX9_init_12 : decode cX9_init 12 = .ok (.aload_n 0, 1) := by decide +kernel
theorem dX9_init_13 : decode cX9_init 13 = .ok (.bipush 8, 2) := by decide +kernel
theorem dX9_init_15 : decode cX9_init 15 = .ok (.newarray .int, 2) := by decide +kernel
theorem dX9_init_17 : decode cX9_init 17 = .ok (.putfield 15, 3) := by decide +kernel
theorem dX9_init_20 : decode cX9_init 20 = .ok (.aload_n 0, 1) := by decide +kernel
theorem dX9_init_21 : decode cX9_init 21 = .ok (.bipush 8, 2) := by decide +kernel
theorem dX9_init_23 : decode cX9_init 23 = .ok (.newarray .int, 2) := by decide +kernel
theorem dX9_init_25 : decode cX9_init 25 = .ok (.putfield 18, 3) := by decide +kernel
theorem dX9_init_28 : decode cX9_init 28 = .ok (.aload_n 0, 1) := by decide +kernel
theorem dX9_init_29 : decode cX9_init 29 = .ok (.bipush 8, 2) := by decide +kernel
theorem dX9_init_31 : decode cX9_init 31 = .ok (.newarray .int, 2) := by decide +kernel
theorem dX9_init_33 : decode cX9_init 33 = .ok (.putfield 21, 3) := by decide +kernel
theorem dX9_init_36 : decode cX9_init 36 = .ok (.aload_n 0, 1) := by decide +kernel
theorem dX9_init_37 : decode cX9_init 37 = .ok (.iconst 0, 1) := by decide +kernel
theorem dX9_init_38 : decode cX9_init 38 = .ok (.putfield 24, 3) := by decide +kernel
theorem dX9_init_41 : decode cX9_init 41 = .ok (.return_, 1) := by decide +kernel
theorem dX9_run_0 : decode cX9_run 0 = .ok (.aload_n 0, 1) := by decide +kernel
theorem dX9_run_1 : decode cX9_run 1 = .ok (.iconst 0, 1) := by decide +kernel
theorem dX9_run_2 : decode cX9_run 2 = .ok (.putfield 24, 3) := by decide +kernel
theorem dX9_run_5 : decode cX9_run 5 = .ok (.iconst 0, 1) := by decide +kernel
theorem dX9_run_6 : decode cX9_run 6 = .ok (.istore_n 2, 1) := by decide +kernel
theorem dX9_run_7 : decode cX9_run 7 = .ok (.iload_n 2, 1) := by decide +kernel
theorem dX9_run_8 : decode cX9_run 8 = .ok (.iload_n 1, 1) := by decide +kernel
theorem dX9_run_9 : decode cX9_run 9 = .ok (.if_icmp .ge 112, 3) := by decide +kernel
theorem dX9_run_12 : decode cX9_run 12 = .ok (.iconst 0, 1) := by decide +kernel
theorem dX9_run_13 : decode cX9_run 13 = .ok (.istore_n 3, 1) := by decide +kernel
theorem dX9_run_14 : decode cX9_run 14 = .ok (.iconst 0, 1) := by decide +kernel
theorem dX9_run_15 : decode cX9_run 15 = .ok (.istore 4, 2) := by decide +kernel
theorem dX9_run_17 : decode cX9_run 17 = .ok (.iconst 1, 1) := by decide +kernel
theorem dX9_run_18 : decode cX9_run 18 = .ok (.istore 5, 2) := by decide +kernel
theorem dX9_run_20 : decode cX9_run 20 = .ok (.iload 5, 2) := by decide +kernel
theorem dX9_run_22 : decode cX9_run 22 = .ok (.iload_n 1, 1) := by decide +kernel
theorem dX9_run_23 : decode cX9_run 23 = .ok (.if_icmp .ge 58, 3) := by decide +kernel
theorem dX9_run_26 : decode cX9_run 26 = .ok (.aload_n 0, 1) := by decide +kernel
theorem dX9_run_27 : decode cX9_run 27 = .ok (.getfield 9, 3) := by decide +kernel
theorem dX9_run_30 : decode cX9_run 30 = .ok (.iload 5, 2) := by decide +kernel
theorem dX9_run_32 : decode cX9_run 32 = .ok (.iaload, 1) := by decide +kernel
theorem dX9_run_33 : decode cX9_run 33 = .ok (.aload_n 0, 1) := by decide +kernel
theorem dX9_run_34 : decode cX9_run 34 = .ok (.getfield 9, 3) := by decide +kernel
theorem dX9_run_37 : decode cX9_run 37 = .ok (.iload_n 3, 1) := by decide +kernel
theorem dX9_run_38 : decode cX9_run 38 = .ok (.iaload, 1) := by decide +kernel
theorem dX9_run_39 : decode cX9_run 39 = .ok (.if_icmp .ge 8, 3) := by decide +kernel
theorem dX9_run_42 : decode cX9_run 42 = .ok (.iload 5, 2) := by decide +kernel
theorem dX9_run_44 : decode cX9_run 44 = .ok (.goto 4, 3) := by decide +kernel
theorem dX9_run_47 : decode cX9_run 47 = .ok (.iload_n 3, 1) := by decide +kernel
theorem dX9_run_48 : decode cX9_run 48 = .ok (.istore_n 3, 1) := by decide +kernel
theorem dX9_run_49 : decode cX9_run 49 = .ok (.aload_n 0, 1) := by decide +kernel
theorem dX9_run_50 : decode cX9_run 50 = .ok (.getfield 9, 3) := by decide +kernel
theorem dX9_run_53 : decode cX9_run 53 = .ok (.iload 5, 2) := by decide +kernel
theorem dX9_run_55 : decode cX9_run 55 = .ok (.iaload, 1) := by decide +kernel
theorem dX9_run_56 : decode cX9_run 56 = .ok (.aload_n 0, 1) := by decide +kernel
theorem dX9_run_57 : decode cX9_run 57 = .ok (.getfield 9, 3) := by decide +kernel
theorem dX9_run_60 : decode cX9_run 60 = .ok (.iload 4, 2) := by decide +kernel
theorem dX9_run_62 : decode cX9_run 62 = .ok (.iaload, 1) := by decide +kernel
theorem dX9_run_63 : decode cX9_run 63 = .ok (.if_icmp .le 8, 3) := by decide +kernel
theorem dX9_run_66 : decode cX9_run 66 = .ok (.iload 5, 2) := by decide +kernel
theorem dX9_run_68 : decode cX9_run 68 = .ok (.goto 5, 3) := by decide +kernel
theorem dX9_run_71 : decode cX9_run 71 = .ok (.iload 4, 2) := by decide +kernel
theorem dX9_run_73 : decode cX9_run 73 = .ok (.istore 4, 2) := by decide +kernel
theorem dX9_run_75 : decode cX9_run 75 = .ok (.iinc 5 1, 3) := by decide +kernel
theorem dX9_run_78 : decode cX9_run 78 = .ok (.goto (-58), 3) := by decide +kernel
theorem dX9_run_81 : decode cX9_run 81 = .ok (.aload_n 0, 1) := by decide +kernel
theorem dX9_run_82 : decode cX9_run 82 = .ok (.getfield 9, 3) := by decide +kernel
theorem dX9_run_85 : decode cX9_run 85 = .ok (.iload_n 3, 1) := by decide +kernel
theorem dX9_run_86 : decode cX9_run 86 = .ok (.iaload, 1) := by decide +kernel
theorem dX9_run_87 : decode cX9_run 87 = .ok (.ifCond .lt 4, 3) := by decide +kernel
theorem dX9_run_90 : decode cX9_run 90 = .ok (.return_, 1) := by decide +kernel
theorem dX9_run_91 : decode cX9_run 91 = .ok (.aload_n 0, 1) := by decide +kernel
theorem dX9_run_92 : decode cX9_run 92 = .ok (.iload_n 3, 1) := by decide +kernel
theorem dX9_run_93 : decode cX9_run 93 = .ok (.iload 4, 2) := by decide +kernel
theorem dX9_run_95 : decode cX9_run 95 = .ok (.aload_n 0, 1) := by decide +kernel
theorem dX9_run_96 : decode cX9_run 96 = .ok (.getfield 9, 3) := by decide +kernel
theorem dX9_run_99 : decode cX9_run 99 = .ok (.iload_n 3, 1) := by decide +kernel
theorem dX9_run_100 : decode cX9_run 100 = .ok (.iaload, 1) := by decide +kernel
theorem dX9_run_101 : decode cX9_run 101 = .ok (.ineg, 1) := by decide +kernel
theorem dX9_run_102 : decode cX9_run 102 = .ok (.aload_n 0, 1) := by decide +kernel
theorem dX9_run_103 : decode cX9_run 103 = .ok (.getfield 9, 3) := by decide +kernel
theorem dX9_run_106 : decode cX9_run 106 = .ok (.iload 4, 2) := by decide +kernel
theorem dX9_run_108 : decode cX9_run 108 = .ok (.iaload, 1) := by decide +kernel
theorem dX9_run_109 : decode cX9_run 109 = .ok (.invokestatic 28, 3) := by decide +kernel
theorem dX9_run_112 : decode cX9_run 112 = .ok (.invokevirtual 34, 3) := by decide +kernel
theorem dX9_run_115 : decode cX9_run 115 = .ok (.iinc 2 1, 3) := by decide +kernel
theorem dX9_run_118 : decode cX9_run 118 = .ok (.goto (-111), 3) := by decide +kernel
theorem dX9_run_121 : decode cX9_run 121 = .ok (.return_, 1) := by decide +kernel
theorem dX9_pay_0 : decode cX9_pay 0 = .ok (.aload_n 0, 1) := by decide +kernel
theorem dX9_pay_1 : decode cX9_pay 1 = .ok (.getfield 9, 3) := by decide +kernel
theorem dX9_pay_4 : decode cX9_pay 4 = .ok (.iload_n 1, 1) := by decide +kernel
theorem dX9_pay_5 : decode cX9_pay 5 = .ok (.dup2, 1) := by decide +kernel
theorem dX9_pay_6 : decode cX9_pay 6 = .ok (.iaload, 1) := by decide +kernel
theorem dX9_pay_7 : decode cX9_pay 7 = .ok (.iload_n 3, 1) := by decide +kernel
theorem dX9_pay_8 : decode cX9_pay 8 = .ok (.iadd, 1) := by decide +kernel
theorem dX9_pay_9 : decode cX9_pay 9 = .ok (.iastore, 1) := by decide +kernel
theorem dX9_pay_10 : decode cX9_pay 10 = .ok (.aload_n 0, 1) := by decide +kernel
theorem dX9_pay_11 : decode cX9_pay 11 = .ok (.getfield 9, 3) := by decide +kernel
theorem dX9_pay_14 : decode cX9_pay 14 = .ok (.iload_n 2, 1) := by decide +kernel
theorem dX9_pay_15 : decode cX9_pay 15 = .ok (.dup2, 1) := by decide +kernel
theorem dX9_pay_16 : decode cX9_pay 16 = .ok (.iaload, 1) := by decide +kernel
theorem dX9_pay_17 : decode cX9_pay 17 = .ok (.iload_n 3, 1) := by decide +kernel
theorem dX9_pay_18 : decode cX9_pay 18 = .ok (.isub, 1) := by decide +kernel
theorem dX9_pay_19 : decode cX9_pay 19 = .ok (.iastore, 1) := by decide +kernel
theorem dX9_pay_20 : decode cX9_pay 20 = .ok (.aload_n 0, 1) := by decide +kernel
theorem dX9_pay_21 : decode cX9_pay 21 = .ok (.getfield 15, 3) := by decide +kernel
theorem dX9_pay_24 : decode cX9_pay 24 = .ok (.aload_n 0, 1) := by decide +kernel
theorem dX9_pay_25 : decode cX9_pay 25 = .ok (.getfield 24, 3) := by decide +kernel
theorem dX9_pay_28 : decode cX9_pay 28 = .ok (.iload_n 1, 1) := by decide +kernel
theorem dX9_pay_29 : decode cX9_pay 29 = .ok (.iastore, 1) := by decide +kernel
theorem dX9_pay_30 : decode cX9_pay 30 = .ok (.aload_n 0, 1) := by decide +kernel
theorem dX9_pay_31 : decode cX9_pay 31 = .ok (.getfield 18, 3) := by decide +kernel
theorem dX9_pay_34 : decode cX9_pay 34 = .ok (.aload_n 0, 1) := by decide +kernel
theorem dX9_pay_35 : decode cX9_pay 35 = .ok (.getfield 24, 3) := by decide +kernel
theorem dX9_pay_38 : decode cX9_pay 38 = .ok (.iload_n 2, 1) := by decide +kernel
theorem dX9_pay_39 : decode cX9_pay 39 = .ok (.iastore, 1) := by decide +kernel
theorem dX9_pay_40 : decode cX9_pay 40 = .ok (.aload_n 0, 1) := by decide +kernel
theorem dX9_pay_41 : decode cX9_pay 41 = .ok (.getfield 21, 3) := by decide +kernel
theorem dX9_pay_44 : decode cX9_pay 44 = .ok (.aload_n 0, 1) := by decide +kernel
theorem dX9_pay_45 : decode cX9_pay 45 = .ok (.getfield 24, 3) := by decide +kernel
theorem dX9_pay_48 : decode cX9_pay 48 = .ok (.iload_n 3, 1) := by decide +kernel
theorem dX9_pay_49 : decode cX9_pay 49 = .ok (.iastore, 1) := by decide +kernel
theorem dX9_pay_50 : decode cX9_pay 50 = .ok (.aload_n 0, 1) := by decide +kernel
theorem dX9_pay_51 : decode cX9_pay 51 = .ok (.dup, 1) := by decide +kernel
theorem dX9_pay_52 : decode cX9_pay 52 = .ok (.getfield 24, 3) := by decide +kernel
theorem dX9_pay_55 : decode cX9_pay 55 = .ok (.iconst 1, 1) := by decide +kernel
theorem dX9_pay_56 : decode cX9_pay 56 = .ok (.iadd, 1) := by decide +kernel
theorem dX9_pay_57 : decode cX9_pay 57 = .ok (.putfield 24, 3) := by decide +kernel
theorem dX9_pay_60 : decode cX9_pay 60 = .ok (.return_, 1) := by decide +kernel
theorem dX10_init_0 : decode cX10_init 0 = .ok (.aload_n 0, 1) := by decide +kernel
theorem dX10_init_1 : decode cX10_init 1 = .ok (.invokespecial 3, 3) := by decide +kernel
theorem dX10_init_4 : decode cX10_init 4 = .ok (.aload_n 0, 1) := by decide +kernel
theorem dX10_init_5 : decode cX10_init 5 = .ok (.bipush 64, 2) := by decide +kernel
theorem dX10_init_7 : decode cX10_init 7 = .ok (.newarray .int, 2) := by decide +kernel
theorem dX10_init_9 : decode cX10_init 9 = .ok (.putfield 9, 3) := by decide +kernel
theorem dX10_init_12 : decode cX10_init 12 = .ok (.aload_n 0, 1) := by decide +kernel
theorem dX10_init_13 : decode cX10_init 13 = .ok (.bipush 64, 2) := by decide +kernel
theorem dX10_init_15 : decode cX10_init 15 = .ok (.newarray .int, 2) := by decide +kernel
theorem dX10_init_17 : decode cX10_init 17 = .ok (.putfield 15, 3) := by decide +kernel
theorem dX10_init_20 : decode cX10_init 20 = .ok (.aload_n 0, 1) := by decide +kernel
theorem dX10_init_21 : decode cX10_init 21 = .ok (.bipush 64, 2) := by decide +kernel
theorem dX10_init_23 : decode cX10_init 23 = .ok (.newarray .float, 2) := by decide +kernel
theorem dX10_init_25 : decode cX10_init 25 = .ok (.putfield 18, 3) := by decide +kernel
theorem dX10_init_28 : decode cX10_init 28 = .ok (.aload_n 0, 1) := by decide +kernel
theorem dX10_init_29 : decode cX10_init 29 = .ok (.bipush 8, 2) := by decide +kernel
theorem dX10_init_31 : decode cX10_init 31 = .ok (.newarray .int, 2) := by decide +kernel
theorem dX10_init_33 : decode cX10_init 33 = .ok (.putfield 22, 3) := by decide +kernel
theorem dX10_init_36 : decode cX10_init 36 = .ok (.aload_n 0, 1) := by decide +kernel
theorem dX10_init_37 : decode cX10_init 37 = .ok (.bipush 8, 2) := by decide +kernel
theorem dX10_init_39 : decode cX10_init 39 = .ok (.newarray .int, 2) := by decide +kernel
theorem dX10_init_41 : decode cX10_init 41 = .ok (.putfield 25, 3) := by decide +kernel
theorem dX10_init_44 : decode cX10_init 44 = .ok (.aload_n 0, 1) := by decide +kernel
theorem dX10_init_45 : decode cX10_init 45 = .ok (.iconst 0, 1) := by decide +kernel
theorem dX10_init_46 : decode cX10_init 46 = .ok (.putfield 28, 3) := by decide +kernel
theorem dX10_init_49 : decode cX10_init 49 = .ok (.return_, 1) := by decide +kernel
theorem dX10_load_0 : decode cX10_load 0 = .ok (.aload_n 0, 1) := by decide +kernel
theorem dX10_load_1 : decode cX10_load 1 = .ok (.aload_n 1, 1) := by decide +kernel
theorem dX10_load_2 : decode cX10_load 2 = .ok (.getfield 32, 3) := by decide +kernel
theorem dX10_load_5 : decode cX10_load 5 = .ok (.putfield 28, 3) := by decide +kernel
theorem dX10_load_8 : decode cX10_load 8 = .ok (.aload_n 0, 1) := by decide +kernel
theorem dX10_load_9 : decode cX10_load 9 = .ok (.aload_n 1, 1) := by decide +kernel
theorem dX10_load_10 : decode cX10_load 10 = .ok (.getfield 35, 3) := by decide +kernel
theorem dX10_load_13 : decode cX10_load 13 = .ok (.iload_n 2, 1) := by decide +kernel
theorem dX10_load_14 : decode cX10_load 14 = .ok (.invokevirtual 38, 3) := by decide +kernel
theorem dX10_load_17 : decode cX10_load 17 = .ok (.iconst 0, 1) := by decide +kernel
theorem dX10_load_18 : decode cX10_load 18 = .ok (.istore_n 3, 1) := by decide +kernel
theorem dX10_load_19 : decode cX10_load 19 = .ok (.iload_n 3, 1) := by decide +kernel
theorem dX10_load_20 : decode cX10_load 20 = .ok (.aload_n 0, 1) := by decide +kernel
theorem dX10_load_21 : decode cX10_load 21 = .ok (.getfield 28, 3) := by decide +kernel
theorem dX10_load_24 : decode cX10_load 24 = .ok (.if_icmp .ge 14, 3) := by decide +kernel
theorem dX10_load_27 : decode cX10_load 27 = .ok (.aload_n 0, 1) := by decide +kernel
theorem dX10_load_28 : decode cX10_load 28 = .ok (.iload_n 3, 1) := by decide +kernel
theorem dX10_load_29 : decode cX10_load 29 = .ok (.invokevirtual 42, 3) := by decide +kernel
theorem dX10_load_32 : decode cX10_load 32 = .ok (.iinc 3 1, 3) := by decide +kernel
theorem dX10_load_35 : decode cX10_load 35 = .ok (.goto (-16), 3) := by decide +kernel
theorem dX10_load_38 : decode cX10_load 38 = .ok (.return_, 1) := by decide +kernel
theorem dX10_loadPercents_0 : decode cX10_loadPercents 0 = .ok (.iconst 0, 1) := by decide +kernel
theorem dX10_loadPercents_1 : decode cX10_loadPercents 1 = .ok (.istore_n 3, 1) := by decide +kernel
theorem dX10_loadPercents_2 : decode cX10_loadPercents 2 = .ok (.iload_n 3, 1) := by decide +kernel
theorem dX10_loadPercents_3 : decode cX10_loadPercents 3 = .ok (.aload_n 0, 1) := by decide +kernel
theorem dX10_loadPercents_4 : decode cX10_loadPercents 4 = .ok (.getfield 28, 3) := by decide +kernel
theorem dX10_loadPercents_7 : decode cX10_loadPercents 7 = .ok (.if_icmp .ge 55, 3) := by decide +kernel
theorem dX10_loadPercents_10 : decode cX10_loadPercents 10 = .ok (.iload_n 3, 1) := by decide +kernel
theorem dX10_loadPercents_11 : decode cX10_loadPercents 11 = .ok (.iconst 1, 1) := by decide +kernel
theorem dX10_loadPercents_12 : decode cX10_loadPercents 12 = .ok (.iadd, 1) := by decide +kernel
theorem dX10_loadPercents_13 : decode cX10_loadPercents 13 = .ok (.istore 4, 2) := by decide +kernel
theorem dX10_loadPercents_15 : decode cX10_loadPercents 15 = .ok (.iload 4, 2) := by decide +kernel
theorem dX10_loadPercents_17 : decode cX10_loadPercents 17 = .ok (.aload_n 0, 1) := by decide +kernel
theorem dX10_loadPercents_18 : decode cX10_loadPercents 18 = .ok (.getfield 28, 3) := by decide +kernel
theorem dX10_loadPercents_21 : decode cX10_loadPercents 21 = .ok (.if_icmp .ge 35, 3) := by decide +kernel
theorem dX10_loadPercents_24 : decode cX10_loadPercents 24 = .ok (.aload_n 0, 1) := by decide +kernel
theorem dX10_loadPercents_25 : decode cX10_loadPercents 25 = .ok (.getfield 9, 3) := by decide +kernel
theorem dX10_loadPercents_28 : decode cX10_loadPercents 28 = .ok (.iload_n 3, 1) := by decide +kernel
theorem dX10_loadPercents_29 : decode cX10_loadPercents 29 = .ok (.bipush 8, 2) := by decide +kernel
theorem dX10_loadPercents_31 : decode cX10_loadPercents 31 = .ok (.imul, 1) := by decide +kernel
theorem dX10_loadPercents_32 : decode cX10_loadPercents 32 = .ok (.iload 4, 2) := by decide +kernel
theorem dX10_loadPercents_34 : decode cX10_loadPercents 34 = .ok (.iadd, 1) := by decide +kernel
theorem dX10_loadPercents_35 : decode cX10_loadPercents 35 = .ok (.iconst 0, 1) := by decide +kernel
theorem dX10_loadPercents_36 : decode cX10_loadPercents 36 = .ok (.iastore, 1) := by decide +kernel
theorem dX10_loadPercents_37 : decode cX10_loadPercents 37 = .ok (.aload_n 0, 1) := by decide +kernel
theorem dX10_loadPercents_38 : decode cX10_loadPercents 38 = .ok (.getfield 15, 3) := by decide +kernel
theorem dX10_loadPercents_41 : decode cX10_loadPercents 41 = .ok (.iload_n 3, 1) := by decide +kernel
theorem dX10_loadPercents_42 : decode cX10_loadPercents 42 = .ok (.bipush 8, 2) := by decide +kernel
theorem dX10_loadPercents_44 : decode cX10_loadPercents 44 = .ok (.imul, 1) := by decide +kernel
theorem dX10_loadPercents_45 : decode cX10_loadPercents 45 = .ok (.iload 4, 2) := by decide +kernel
theorem dX10_loadPercents_47 : decode cX10_loadPercents 47 = .ok (.iadd, 1) := by decide +kernel
theorem dX10_loadPercents_48 : decode cX10_loadPercents 48 = .ok (.iconst (-1), 1) := by decide +kernel
theorem dX10_loadPercents_49 : decode cX10_loadPercents 49 = .ok (.iastore, 1) := by decide +kernel
theorem dX10_loadPercents_50 : decode cX10_loadPercents 50 = .ok (.iinc 4 1, 3) := by decide +kernel
theorem dX10_loadPercents_53 : decode cX10_loadPercents 53 = .ok (.goto (-38), 3) := by decide +kernel
theorem dX10_loadPercents_56 : decode cX10_loadPercents 56 = .ok (.iinc 3 1, 3) := by decide +kernel
theorem dX10_loadPercents_59 : decode cX10_loadPercents 59 = .ok (.goto (-57), 3) := by decide +kernel
theorem dX10_loadPercents_62 : decode cX10_loadPercents 62 = .ok (.iconst 0, 1) := by decide +kernel
theorem dX10_loadPercents_63 : decode cX10_loadPercents 63 = .ok (.istore_n 3, 1) := by decide +kernel
theorem dX10_loadPercents_64 : decode cX10_loadPercents 64 = .ok (.iload_n 3, 1) := by decide +kernel
theorem dX10_loadPercents_65 : decode cX10_loadPercents 65 = .ok (.aload_n 1, 1) := by decide +kernel
theorem dX10_loadPercents_66 : decode cX10_loadPercents 66 = .ok (.getfield 46, 3) := by decide +kernel
theorem dX10_loadPercents_69 : decode cX10_loadPercents 69 = .ok (.if_icmp .ge 79, 3) := by decide +kernel
theorem dX10_loadPercents_72 : decode cX10_loadPercents 72 = .ok (.aload_n 1, 1) := by decide +kernel
theorem dX10_loadPercents_73 : decode cX10_loadPercents 73 = .ok (.getfield 51, 3) := by decide +kernel
theorem dX10_loadPercents_76 : decode cX10_loadPercents 76 = .ok (.iload_n 3, 1) := by decide +kernel
theorem dX10_loadPercents_77 : decode cX10_loadPercents 77 = .ok (.iaload, 1) := by decide +kernel
theorem dX10_loadPercents_78 : decode cX10_loadPercents 78 = .ok (.bipush 8, 2) := by decide +kernel
theorem dX10_loadPercents_80 : decode cX10_loadPercents 80 = .ok (.imul, 1) := by decide +kernel
theorem dX10_loadPercents_81 : decode cX10_loadPercents 81 = .ok (.aload_n 1, 1) := by decide +kernel
theorem dX10_loadPercents_82 : decode cX10_loadPercents 82 = .ok (.getfield 54, 3) := by decide +kernel
theorem dX10_loadPercents_85 : decode cX10_loadPercents 85 = .ok (.iload_n 3, 1) := by decide +kernel
theorem dX10_loadPercents_86 : decode cX10_loadPercents 86 = .ok (.iaload, 1) := by decide +kernel
theorem dX10_loadPercents_87 : decode cX10_loadPercents 87 = .ok (.iadd, 1) := by decide +kernel
theorem dX10_loadPercents_88 : decode cX10_loadPercents 88 = .ok (.istore 4, 2) := by decide +kernel
theorem dX10_loadPercents_90 : decode cX10_loadPercents 90 = .ok (.aload_n 1, 1) := by decide +kernel
theorem dX10_loadPercents_91 : decode cX10_loadPercents 91 = .ok (.getfield 57, 3) := by decide +kernel
theorem dX10_loadPercents_94 : decode cX10_loadPercents 94 = .ok (.iload_n 3, 1) := by decide +kernel
theorem dX10_loadPercents_95 : decode cX10_loadPercents 95 = .ok (.iaload, 1) := by decide +kernel
theorem dX10_loadPercents_96 : decode cX10_loadPercents 96 = .ok (.iload_n 2, 1) := by decide +kernel
theorem dX10_loadPercents_97 : decode cX10_loadPercents 97 = .ok (.if_icmp .gt 45, 3) := by decide +kernel
theorem dX10_loadPercents_100 : decode cX10_loadPercents 100 = .ok (.aload_n 1, 1) := by decide +kernel
theorem dX10_loadPercents_101 : decode cX10_loadPercents 101 = .ok (.getfield 57, 3) := by decide +kernel
theorem dX10_loadPercents_104 : decode cX10_loadPercents 104 = .ok (.iload_n 3, 1) := by decide +kernel
theorem dX10_loadPercents_105 : decode cX10_loadPercents 105 = .ok (.iaload, 1) := by decide +kernel
theorem dX10_loadPercents_106 : decode cX10_loadPercents 106 = .ok (.aload_n 0, 1) := by decide +kernel
theorem dX10_loadPercents_107 : decode cX10_loadPercents 107 = .ok (.getfield 15, 3) := by decide +kernel
theorem dX10_loadPercents_110 : decode cX10_loadPercents 110 = .ok (.iload 4, 2) := by decide +kernel
theorem dX10_loadPercents_112 : decode cX10_loadPercents 112 = .ok (.iaload, 1) := by decide +kernel
theorem dX10_loadPercents_113 : decode cX10_loadPercents 113 = .ok (.if_icmp .lt 29, 3) := by decide +kernel
theorem dX10_loadPercents_116 : decode cX10_loadPercents 116 = .ok (.aload_n 0, 1) := by decide +kernel
theorem dX10_loadPercents_117 : decode cX10_loadPercents 117 = .ok (.getfield 15, 3) := by decide +kernel
theorem dX10_loadPercents_120 : decode cX10_loadPercents 120 = .ok (.iload 4, 2) := by decide +kernel
theorem dX10_loadPercents_122 : decode cX10_loadPercents 122 = .ok (.aload_n 1, 1) := by decide +kernel
theorem dX10_loadPercents_123 : decode cX10_loadPercents 123 = .ok (.getfield 57, 3) := by decide +kernel
theorem dX10_loadPercents_126 : decode cX10_loadPercents 126 = .ok (.iload_n 3, 1) := by decide +kernel
theorem dX10_loadPercents_127 : decode cX10_loadPercents 127 = .ok (.iaload, 1) := by decide +kernel
theorem dX10_loadPercents_128 : decode cX10_loadPercents 128 = .ok (.iastore, 1) := by decide +kernel
theorem dX10_loadPercents_129 : decode cX10_loadPercents 129 = .ok (.aload_n 0, 1) := by decide +kernel
theorem dX10_loadPercents_130 : decode cX10_loadPercents 130 = .ok (.getfield 9, 3) := by decide +kernel
theorem dX10_loadPercents_133 : decode cX10_loadPercents 133 = .ok (.iload 4, 2) := by decide +kernel
theorem dX10_loadPercents_135 : decode cX10_loadPercents 135 = .ok (.aload_n 1, 1) := by decide +kernel
theorem dX10_loadPercents_136 : decode cX10_loadPercents 136 = .ok (.getfield 58, 3) := by decide +kernel
theorem dX10_loadPercents_139 : decode cX10_loadPercents 139 = .ok (.iload_n 3, 1) := by decide +kernel
theorem dX10_loadPercents_140 : decode cX10_loadPercents 140 = .ok (.iaload, 1) := by decide +kernel
theorem dX10_loadPercents_141 : decode cX10_loadPercents 141 = .ok (.iastore, 1) := by decide +kernel
theorem dX10_loadPercents_142 : decode cX10_loadPercents 142 = .ok (.iinc 3 1, 3) := by decide +kernel
theorem dX10_loadPercents_145 : decode cX10_loadPercents 145 = .ok (.goto (-81), 3) := by decide +kernel
theorem dX10_loadPercents_148 : decode cX10_loadPercents 148 = .ok (.return_, 1) := by decide +kernel
theorem dX10_loadParts_0 : decode cX10_loadParts 0 = .ok (.iload_n 1, 1) := by decide +kernel
theorem dX10_loadParts_1 : decode cX10_loadParts 1 = .ok (.bipush 8, 2) := by decide +kernel
theorem dX10_loadParts_3 : decode cX10_loadParts 3 = .ok (.imul, 1) := by decide +kernel
theorem dX10_loadParts_4 : decode cX10_loadParts 4 = .ok (.istore_n 2, 1) := by decide +kernel
theorem dX10_loadParts_5 : decode cX10_loadParts 5 = .ok (.aload_n 0, 1) := by decide +kernel
theorem dX10_loadParts_6 : decode cX10_loadParts 6 = .ok (.getfield 18, 3) := by decide +kernel
theorem dX10_loadParts_9 : decode cX10_loadParts 9 = .ok (.iload_n 2, 1) := by decide +kernel
theorem dX10_loadParts_10 : decode cX10_loadParts 10 = .ok (.iload_n 1, 1) := by decide +kernel
theorem dX10_loadParts_11 : decode cX10_loadParts 11 = .ok (.iadd, 1) := by decide +kernel
theorem dX10_loadParts_12 : decode cX10_loadParts 12 = .ok (.fconst 1, 1) := by decide +kernel
theorem dX10_loadParts_13 : decode cX10_loadParts 13 = .ok (.fastore, 1) := by decide +kernel
theorem dX10_loadParts_14 : decode cX10_loadParts 14 = .ok (.iload_n 1, 1) := by decide +kernel
theorem dX10_loadParts_15 : decode cX10_loadParts 15 = .ok (.iconst 1, 1) := by decide +kernel
theorem dX10_loadParts_16 : decode cX10_loadParts 16 = .ok (.iadd, 1) := by decide +kernel
theorem dX10_loadParts_17 : decode cX10_loadParts 17 = .ok (.istore_n 3, 1) := by decide +kernel
theorem dX10_loadParts_18 : decode cX10_loadParts 18 = .ok (.iload_n 3, 1) := by decide +kernel
theorem dX10_loadParts_19 : decode cX10_loadParts 19 = .ok (.aload_n 0, 1) := by decide +kernel
theorem dX10_loadParts_20 : decode cX10_loadParts 20 = .ok (.getfield 28, 3) := by decide +kernel
theorem dX10_loadParts_23 : decode cX10_loadParts 23 = .ok (.if_icmp .ge 68, 3) := by decide +kernel
theorem dX10_loadParts_26 : decode cX10_loadParts 26 = .ok (.fconst 0, 1) := by decide +kernel
theorem dX10_loadParts_27 : decode cX10_loadParts 27 = .ok (.fstore 4, 2) := by decide +kernel
theorem dX10_loadParts_29 : decode cX10_loadParts 29 = .ok (.iload_n 1, 1) := by decide +kernel
theorem dX10_loadParts_30 : decode cX10_loadParts 30 = .ok (.istore 5, 2) := by decide +kernel
theorem dX10_loadParts_32 : decode cX10_loadParts 32 = .ok (.iload 5, 2) := by decide +kernel
theorem dX10_loadParts_34 : decode cX10_loadParts 34 = .ok (.iload_n 3, 1) := by decide +kernel
theorem dX10_loadParts_35 : decode cX10_loadParts 35 = .ok (.if_icmp .ge 40, 3) := by decide +kernel
theorem dX10_loadParts_38 : decode cX10_loadParts 38 = .ok (.fload 4, 2) := by decide +kernel
theorem dX10_loadParts_40 : decode cX10_loadParts 40 = .ok (.aload_n 0, 1) := by decide +kernel
theorem dX10_loadParts_41 : decode cX10_loadParts 41 = .ok (.getfield 18, 3) := by decide +kernel
theorem dX10_loadParts_44 : decode cX10_loadParts 44 = .ok (.iload_n 2, 1) := by decide +kernel
theorem dX10_loadParts_45 : decode cX10_loadParts 45 = .ok (.iload 5, 2) := by decide +kernel
theorem dX10_loadParts_47 : decode cX10_loadParts 47 = .ok (.iadd, 1) := by decide +kernel
theorem dX10_loadParts_48 : decode cX10_loadParts 48 = .ok (.faload, 1) := by decide +kernel
theorem dX10_loadParts_49 : decode cX10_loadParts 49 = .ok (.aload_n 0, 1) := by decide +kernel
theorem dX10_loadParts_50 : decode cX10_loadParts 50 = .ok (.getfield 9, 3) := by decide +kernel
theorem dX10_loadParts_53 : decode cX10_loadParts 53 = .ok (.iload 5, 2) := by decide +kernel
theorem dX10_loadParts_55 : decode cX10_loadParts 55 = .ok (.bipush 8, 2) := by decide +kernel
theorem dX10_loadParts_57 : decode cX10_loadParts 57 = .ok (.imul, 1) := by decide +kernel
theorem dX10_loadParts_58 : decode cX10_loadParts 58 = .ok (.iload_n 3, 1) := by decide +kernel
theorem dX10_loadParts_59 : decode cX10_loadParts 59 = .ok (.iadd, 1) := by decide +kernel
theorem dX10_loadParts_60 : decode cX10_loadParts 60 = .ok (.iaload, 1) := by decide +kernel
theorem dX10_loadParts_61 : decode cX10_loadParts 61 = .ok (.i2f, 1) := by decide +kernel
theorem dX10_loadParts_62 : decode cX10_loadParts 62 = .ok (.ldc 59, 2) := by decide +kernel
theorem dX10_loadParts_64 : decode cX10_loadParts 64 = .ok (.fdiv, 1) := by decide +kernel
theorem dX10_loadParts_65 : decode cX10_loadParts 65 = .ok (.fmul, 1) := by decide +kernel
theorem dX10_loadParts_66 : decode cX10_loadParts 66 = .ok (.fadd, 1) := by decide +kernel
theorem dX10_loadParts_67 : decode cX10_loadParts 67 = .ok (.fstore 4, 2) := by decide +kernel
theorem dX10_loadParts_69 : decode cX10_loadParts 69 = .ok (.iinc 5 1, 3) := by decide +kernel
theorem dX10_loadParts_72 : decode cX10_loadParts 72 = .ok (.goto (-40), 3) := by decide +kernel
theorem dX10_loadParts_75 : decode cX10_loadParts 75 = .ok (.aload_n 0, 1) := by decide +kernel
theorem dX10_loadParts_76 : decode cX10_loadParts 76 = .ok (.getfield 18, 3) := by decide +kernel
theorem dX10_loadParts_79 : decode cX10_loadParts 79 = .ok (.iload_n 2, 1) := by decide +kernel
theorem dX10_loadParts_80 : decode cX10_loadParts 80 = .ok (.iload_n 3, 1) := by decide +kernel
theorem dX10_loadParts_81 : decode cX10_loadParts 81 = .ok (.iadd, 1) := by decide +kernel
theorem dX10_loadParts_82 : decode cX10_loadParts 82 = .ok (.fload 4, 2) := by decide +kernel
theorem dX10_loadParts_84 : decode cX10_loadParts 84 = .ok (.fastore, 1) := by decide +kernel
theorem dX10_loadParts_85 : decode cX10_loadParts 85 = .ok (.iinc 3 1, 3) := by decide +kernel
theorem dX10_loadParts_88 : decode cX10_loadParts 88 = .ok (.goto (-70), 3) := by decide +kernel
theorem dX10_loadParts_91 : decode cX10_loadParts 91 = .ok (.return_, 1) := by decide +kernel
theorem dX10_judge_0 : decode cX10_judge 0 = .ok (.iconst 0, 1) := by decide +kernel
theorem dX10_judge_1 : decode cX10_judge 1 = .ok (.istore_n 2, 1) := by decide +kernel
theorem dX10_judge_2 : decode cX10_judge 2 = .ok (.iload_n 2, 1) := by decide +kernel
theorem dX10_judge_3 : decode cX10_judge 3 = .ok (.aload_n 0, 1) := by decide +kernel
theorem dX10_judge_4 : decode cX10_judge 4 = .ok (.getfield 28, 3) := by decide +kernel
theorem dX10_judge_7 : decode cX10_judge 7 = .ok (.if_icmp .ge 66, 3) := by decide +kernel
theorem dX10_judge_10 : decode cX10_judge 10 = .ok (.aload_n 0, 1) := by decide +kernel
theorem dX10_judge_11 : decode cX10_judge 11 = .ok (.getfield 22, 3) := by decide +kernel
theorem dX10_judge_14 : decode cX10_judge 14 = .ok (.iload_n 2, 1) := by decide +kernel
theorem dX10_judge_15 : decode cX10_judge 15 = .ok (.iconst 0, 1) := by decide +kernel
theorem dX10_judge_16 : decode cX10_judge 16 = .ok (.iastore, 1) := by decide +kernel
theorem dX10_judge_17 : decode cX10_judge 17 = .ok (.iload_n 2, 1) := by decide +kernel
theorem dX10_judge_18 : decode cX10_judge 18 = .ok (.iconst 1, 1) := by decide +kernel
theorem dX10_judge_19 : decode cX10_judge 19 = .ok (.iadd, 1) := by decide +kernel
theorem dX10_judge_20 : decode cX10_judge 20 = .ok (.istore_n 3, 1) := by decide +kernel
theorem dX10_judge_21 : decode cX10_judge 21 = .ok (.iload_n 3, 1) := by decide +kernel
theorem dX10_judge_22 : decode cX10_judge 22 = .ok (.aload_n 0, 1) := by decide +kernel
theorem dX10_judge_23 : decode cX10_judge 23 = .ok (.getfield 28, 3) := by decide +kernel
theorem dX10_judge_26 : decode cX10_judge 26 = .ok (.if_icmp .ge 41, 3) := by decide +kernel
theorem dX10_judge_29 : decode cX10_judge 29 = .ok (.aload_n 0, 1) := by decide +kernel
theorem dX10_judge_30 : decode cX10_judge 30 = .ok (.getfield 18, 3) := by decide +kernel
theorem dX10_judge_33 : decode cX10_judge 33 = .ok (.iload_n 2, 1) := by decide +kernel
theorem dX10_judge_34 : decode cX10_judge 34 = .ok (.bipush 8, 2) := by decide +kernel
theorem dX10_judge_36 : decode cX10_judge 36 = .ok (.imul, 1) := by decide +kernel
theorem dX10_judge_37 : decode cX10_judge 37 = .ok (.iload_n 3, 1) := by decide +kernel
theorem dX10_judge_38 : decode cX10_judge 38 = .ok (.iadd, 1) := by decide +kernel
theorem dX10_judge_39 : decode cX10_judge 39 = .ok (.faload, 1) := by decide +kernel
theorem dX10_judge_40 : decode cX10_judge 40 = .ok (.ldc 59, 2) := by decide +kernel
theorem dX10_judge_42 : decode cX10_judge 42 = .ok (.fmul, 1) := by decide +kernel
theorem dX10_judge_43 : decode cX10_judge 43 = .ok (.iload_n 1, 1) := by decide +kernel
theorem dX10_judge_44 : decode cX10_judge 44 = .ok (.i2f, 1) := by decide +kernel
theorem dX10_judge_45 : decode cX10_judge 45 = .ok (.fcmp .l, 1) := by decide +kernel
theorem dX10_judge_46 : decode cX10_judge 46 = .ok (.ifCond .lt 15, 3) := by decide +kernel
theorem dX10_judge_49 : decode cX10_judge 49 = .ok (.aload_n 0, 1) := by decide +kernel
theorem dX10_judge_50 : decode cX10_judge 50 = .ok (.getfield 22, 3) := by decide +kernel
theorem dX10_judge_53 : decode cX10_judge 53 = .ok (.iload_n 2, 1) := by decide +kernel
theorem dX10_judge_54 : decode cX10_judge 54 = .ok (.dup2, 1) := by decide +kernel
theorem dX10_judge_55 : decode cX10_judge 55 = .ok (.iaload, 1) := by decide +kernel
theorem dX10_judge_56 : decode cX10_judge 56 = .ok (.iconst 1, 1) := by decide +kernel
theorem dX10_judge_57 : decode cX10_judge 57 = .ok (.iload_n 3, 1) := by decide +kernel
theorem dX10_judge_58 : decode cX10_judge 58 = .ok (.ishl, 1) := by decide +kernel
theorem dX10_judge_59 : decode cX10_judge 59 = .ok (.ior, 1) := by decide +kernel
theorem dX10_judge_60 : decode cX10_judge 60 = .ok (.iastore, 1) := by decide +kernel
theorem dX10_judge_61 : decode cX10_judge 61 = .ok (.iinc 3 1, 3) := by decide +kernel
theorem dX10_judge_64 : decode cX10_judge 64 = .ok (.goto (-43), 3) := by decide +kernel
theorem dX10_judge_67 : decode cX10_judge 67 = .ok (.iinc 2 1, 3) := by decide +kernel
theorem dX10_judge_70 : decode cX10_judge 70 = .ok (.goto (-68), 3) := by decide +kernel
theorem dX10_judge_73 : decode cX10_judge 73 = .ok (.return_, 1) := by decide +kernel
theorem dX10_relativesOf_0 : decode cX10_relativesOf 0 = .ok (.aload_n 0, 1) := by decide +kernel
theorem dX10_relativesOf_1 : decode cX10_relativesOf 1 = .ok (.getfield 22, 3) := by decide +kernel
theorem dX10_relativesOf_4 : decode cX10_relativesOf 4 = .ok (.iload_n 1, 1) := by decide +kernel
theorem dX10_relativesOf_5 : decode cX10_relativesOf 5 = .ok (.iaload, 1) := by decide +kernel
theorem dX10_relativesOf_6 : decode cX10_relativesOf 6 = .ok (.istore_n 2, 1) := by decide +kernel
theorem dX10_relativesOf_7 : decode cX10_relativesOf 7 = .ok (.iconst 0, 1) := by decide +kernel
theorem dX10_relativesOf_8 : decode cX10_relativesOf 8 = .ok (.istore_n 3, 1) := by decide +kernel
theorem dX10_relativesOf_9 : decode cX10_relativesOf 9 = .ok (.iload_n 3, 1) := by decide +kernel
theorem dX10_relativesOf_10 : decode cX10_relativesOf 10 = .ok (.iload_n 1, 1) := by decide +kernel
theorem dX10_relativesOf_11 : decode cX10_relativesOf 11 = .ok (.if_icmp .ge 36, 3) := by decide +kernel
theorem dX10_relativesOf_14 : decode cX10_relativesOf 14 = .ok (.aload_n 0, 1) := by decide +kernel
theorem dX10_relativesOf_15 : decode cX10_relativesOf 15 = .ok (.getfield 22, 3) := by decide +kernel
theorem dX10_relativesOf_18 : decode cX10_relativesOf 18 = .ok (.iload_n 3, 1) := by decide +kernel
theorem dX10_relativesOf_19 : decode cX10_relativesOf 19 = .ok (.iaload, 1) := by decide +kernel
theorem dX10_relativesOf_20 : decode cX10_relativesOf 20 = .ok (.iload_n 1, 1) := by decide +kernel
theorem dX10_relativesOf_21 : decode cX10_relativesOf 21 = .ok (.ishr, 1) := by decide +kernel
theorem dX10_relativesOf_22 : decode cX10_relativesOf 22 = .ok (.iconst 1, 1) := by decide +kernel
theorem dX10_relativesOf_23 : decode cX10_relativesOf 23 = .ok (.iand, 1) := by decide +kernel
theorem dX10_relativesOf_24 : decode cX10_relativesOf 24 = .ok (.iconst 1, 1) := by decide +kernel
theorem dX10_relativesOf_25 : decode cX10_relativesOf 25 = .ok (.if_icmp .ne 16, 3) := by decide +kernel
theorem dX10_relativesOf_28 : decode cX10_relativesOf 28 = .ok (.iload_n 2, 1) := by decide +kernel
theorem dX10_relativesOf_29 : decode cX10_relativesOf 29 = .ok (.aload_n 0, 1) := by decide +kernel
theorem dX10_relativesOf_30 : decode cX10_relativesOf 30 = .ok (.getfield 22, 3) := by decide +kernel
theorem dX10_relativesOf_33 : decode cX10_relativesOf 33 = .ok (.iload_n 3, 1) := by decide +kernel
theorem dX10_relativesOf_34 : decode cX10_relativesOf 34 = .ok (.iaload, 1) := by decide +kernel
theorem dX10_relativesOf_35 : decode cX10_relativesOf 35 = .ok (.iconst 1, 1) := by decide +kernel
theorem dX10_relativesOf_36 : decode cX10_relativesOf 36 = .ok (.iload_n 3, 1) := by decide +kernel
theorem dX10_relativesOf_37 : decode cX10_relativesOf 37 = .ok (.ishl, 1) := by decide +kernel
theorem dX10_relativesOf_38 : decode cX10_relativesOf 38 = .ok (.ior, 1) := by decide +kernel
theorem dX10_relativesOf_39 : decode cX10_relativesOf 39 = .ok (.ior, 1) := by decide +kernel
theorem dX10_relativesOf_40 : decode cX10_relativesOf 40 = .ok (.istore_n 2, 1) := by decide +kernel
theorem dX10_relativesOf_41 : decode cX10_relativesOf 41 = .ok (.iinc 3 1, 3) := by decide +kernel
theorem dX10_relativesOf_44 : decode cX10_relativesOf 44 = .ok (.goto (-35), 3) := by decide +kernel
theorem dX10_relativesOf_47 : decode cX10_relativesOf 47 = .ok (.iload_n 2, 1) := by decide +kernel
theorem dX10_relativesOf_48 : decode cX10_relativesOf 48 = .ok (.iconst 1, 1) := by decide +kernel
theorem dX10_relativesOf_49 : decode cX10_relativesOf 49 = .ok (.iload_n 1, 1) := by decide +kernel
theorem dX10_relativesOf_50 : decode cX10_relativesOf 50 = .ok (.ishl, 1) := by decide +kernel
theorem dX10_relativesOf_51 : decode cX10_relativesOf 51 = .ok (.iconst (-1), 1) := by decide +kernel
theorem dX10_relativesOf_52 : decode cX10_relativesOf 52 = .ok (.ixor, 1) := by decide +kernel
theorem dX10_relativesOf_53 : decode cX10_relativesOf 53 = .ok (.iand, 1) := by decide +kernel
theorem dX10_relativesOf_54 : decode cX10_relativesOf 54 = .ok (.ireturn, 1) := by decide +kernel
theorem dX10_countGroups_0 : decode cX10_countGroups 0 = .ok (.iconst 0, 1) := by decide +kernel
theorem dX10_countGroups_1 : decode cX10_countGroups 1 = .ok (.istore_n 1, 1) := by decide +kernel
theorem dX10_countGroups_2 : decode cX10_countGroups 2 = .ok (.iconst 0, 1) := by decide +kernel
theorem dX10_countGroups_3 : decode cX10_countGroups 3 = .ok (.istore_n 2, 1) := by decide +kernel
theorem dX10_countGroups_4 : decode cX10_countGroups 4 = .ok (.iconst 0, 1) := by decide +kernel
theorem dX10_countGroups_5 : decode cX10_countGroups 5 = .ok (.istore_n 3, 1) := by decide +kernel
theorem dX10_countGroups_6 : decode cX10_countGroups 6 = .ok (.iload_n 3, 1) := by decide +kernel
theorem dX10_countGroups_7 : decode cX10_countGroups 7 = .ok (.aload_n 0, 1) := by decide +kernel
theorem dX10_countGroups_8 : decode cX10_countGroups 8 = .ok (.getfield 28, 3) := by decide +kernel
theorem dX10_countGroups_11 : decode cX10_countGroups 11 = .ok (.if_icmp .ge 28, 3) := by decide +kernel
theorem dX10_countGroups_14 : decode cX10_countGroups 14 = .ok (.iload_n 1, 1) := by decide +kernel
theorem dX10_countGroups_15 : decode cX10_countGroups 15 = .ok (.iload_n 3, 1) := by decide +kernel
theorem dX10_countGroups_16 : decode cX10_countGroups 16 = .ok (.ishr, 1) := by decide +kernel
theorem dX10_countGroups_17 : decode cX10_countGroups 17 = .ok (.iconst 1, 1) := by decide +kernel
theorem dX10_countGroups_18 : decode cX10_countGroups 18 = .ok (.iand, 1) := by decide +kernel
theorem dX10_countGroups_19 : decode cX10_countGroups 19 = .ok (.ifCond .ne 14, 3) := by decide +kernel
theorem dX10_countGroups_22 : decode cX10_countGroups 22 = .ok (.iload_n 1, 1) := by decide +kernel
theorem dX10_countGroups_23 : decode cX10_countGroups 23 = .ok (.aload_n 0, 1) := by decide +kernel
theorem dX10_countGroups_24 : decode cX10_countGroups 24 = .ok (.iload_n 3, 1) := by decide +kernel
theorem dX10_countGroups_25 : decode cX10_countGroups 25 = .ok (.invokevirtual 60, 3) := by decide +kernel
theorem dX10_countGroups_28 : decode cX10_countGroups 28 = .ok (.ior, 1) := by decide +kernel
theorem dX10_countGroups_29 : decode cX10_countGroups 29 = .ok (.istore_n 1, 1) := by decide +kernel
theorem dX10_countGroups_30 : decode cX10_countGroups 30 = .ok (.iinc 2 1, 3) := by decide +kernel
theorem dX10_countGroups_33 : decode cX10_countGroups 33 = .ok (.iinc 3 1, 3) := by decide +kernel
theorem dX10_countGroups_36 : decode cX10_countGroups 36 = .ok (.goto (-30), 3) := by decide +kernel
theorem dX10_countGroups_39 : decode cX10_countGroups 39 = .ok (.iload_n 2, 1) := by decide +kernel
theorem dX10_countGroups_40 : decode cX10_countGroups 40 = .ok (.ireturn, 1) := by decide +kernel
theorem dX10_groupOf_0 : decode cX10_groupOf 0 = .ok (.iconst 1, 1) := by decide +kernel
theorem dX10_groupOf_1 : decode cX10_groupOf 1 = .ok (.iload_n 1, 1) := by decide +kernel
theorem dX10_groupOf_2 : decode cX10_groupOf 2 = .ok (.ishl, 1) := by decide +kernel
theorem dX10_groupOf_3 : decode cX10_groupOf 3 = .ok (.istore_n 2, 1) := by decide +kernel
theorem dX10_groupOf_4 : decode cX10_groupOf 4 = .ok (.iconst 0, 1) := by decide +kernel
theorem dX10_groupOf_5 : decode cX10_groupOf 5 = .ok (.istore_n 3, 1) := by decide +kernel
theorem dX10_groupOf_6 : decode cX10_groupOf 6 = .ok (.iload_n 3, 1) := by decide +kernel
theorem dX10_groupOf_7 : decode cX10_groupOf 7 = .ok (.aload_n 0, 1) := by decide +kernel
theorem dX10_groupOf_8 : decode cX10_groupOf 8 = .ok (.getfield 28, 3) := by decide +kernel
theorem dX10_groupOf_11 : decode cX10_groupOf 11 = .ok (.if_icmp .ge 46, 3) := by decide +kernel
theorem dX10_groupOf_14 : decode cX10_groupOf 14 = .ok (.iconst 0, 1) := by decide +kernel
theorem dX10_groupOf_15 : decode cX10_groupOf 15 = .ok (.istore 4, 2) := by decide +kernel
theorem dX10_groupOf_17 : decode cX10_groupOf 17 = .ok (.iload 4, 2) := by decide +kernel
theorem dX10_groupOf_19 : decode cX10_groupOf 19 = .ok (.aload_n 0, 1) := by decide +kernel
theorem dX10_groupOf_20 : decode cX10_groupOf 20 = .ok (.getfield 28, 3) := by decide +kernel
theorem dX10_groupOf_23 : decode cX10_groupOf 23 = .ok (.if_icmp .ge 28, 3) := by decide +kernel
theorem dX10_groupOf_26 : decode cX10_groupOf 26 = .ok (.iload_n 2, 1) := by decide +kernel
theorem dX10_groupOf_27 : decode cX10_groupOf 27 = .ok (.iload 4, 2) := by decide +kernel
theorem dX10_groupOf_29 : decode cX10_groupOf 29 = .ok (.ishr, 1) := by decide +kernel
theorem dX10_groupOf_30 : decode cX10_groupOf 30 = .ok (.iconst 1, 1) := by decide +kernel
theorem dX10_groupOf_31 : decode cX10_groupOf 31 = .ok (.iand, 1) := by decide +kernel
theorem dX10_groupOf_32 : decode cX10_groupOf 32 = .ok (.iconst 1, 1) := by decide +kernel
theorem dX10_groupOf_33 : decode cX10_groupOf 33 = .ok (.if_icmp .ne 12, 3) := by decide +kernel
theorem dX10_groupOf_36 : decode cX10_groupOf 36 = .ok (.iload_n 2, 1) := by decide +kernel
theorem dX10_groupOf_37 : decode cX10_groupOf 37 = .ok (.aload_n 0, 1) := by decide +kernel
theorem dX10_groupOf_38 : decode cX10_groupOf 38 = .ok (.iload 4, 2) := by decide +kernel
theorem dX10_groupOf_40 : decode cX10_groupOf 40 = .ok (.invokevirtual 64, 3) := by decide +kernel
theorem dX10_groupOf_43 : decode cX10_groupOf 43 = .ok (.ior, 1) := by decide +kernel
theorem dX10_groupOf_44 : decode cX10_groupOf 44 = .ok (.istore_n 2, 1) := by decide +kernel
theorem dX10_groupOf_45 : decode cX10_groupOf 45 = .ok (.iinc 4 1, 3) := by decide +kernel
theorem dX10_groupOf_48 : decode cX10_groupOf 48 = .ok (.goto (-31), 3) := by decide +kernel
theorem dX10_groupOf_51 : decode cX10_groupOf 51 = .ok (.iinc 3 1, 3) := by decide +kernel
theorem dX10_groupOf_54 : decode cX10_groupOf 54 = .ok (.goto (-48), 3) := by decide +kernel
theorem dX10_groupOf_57 : decode cX10_groupOf 57 = .ok (.iload_n 2, 1) := by decide +kernel
theorem dX10_groupOf_58 : decode cX10_groupOf 58 = .ok (.ireturn, 1) := by decide +kernel
theorem dX10_stepsBetween_0 : decode cX10_stepsBetween 0 = .ok (.iconst 0, 1) := by decide +kernel
theorem dX10_stepsBetween_1 : decode cX10_stepsBetween 1 = .ok (.istore_n 3, 1) := by decide +kernel
theorem dX10_stepsBetween_2 : decode cX10_stepsBetween 2 = .ok (.iload_n 3, 1) := by decide +kernel
theorem dX10_stepsBetween_3 : decode cX10_stepsBetween 3 = .ok (.aload_n 0, 1) := by decide +kernel
theorem dX10_stepsBetween_4 : decode cX10_stepsBetween 4 = .ok (.getfield 28, 3) := by decide +kernel
theorem dX10_stepsBetween_7 : decode cX10_stepsBetween 7 = .ok (.if_icmp .ge 120, 3) := by decide +kernel
theorem dX10_stepsBetween_10 : decode cX10_stepsBetween 10 = .ok (.aload_n 0, 1) := by decide +kernel
theorem dX10_stepsBetween_11 : decode cX10_stepsBetween 11 = .ok (.getfield 25, 3) := by decide +kernel
theorem dX10_stepsBetween_14 : decode cX10_stepsBetween 14 = .ok (.iload_n 3, 1) := by decide +kernel
theorem dX10_stepsBetween_15 : decode cX10_stepsBetween 15 = .ok (.iload_n 3, 1) := by decide +kernel
theorem dX10_stepsBetween_16 : decode cX10_stepsBetween 16 = .ok (.iload_n 1, 1) := by decide +kernel
theorem dX10_stepsBetween_17 : decode cX10_stepsBetween 17 = .ok (.if_icmp .ne 7, 3) := by decide +kernel
theorem dX10_stepsBetween_20 : decode cX10_stepsBetween 20 = .ok (.iconst 0, 1) := by decide +kernel
theorem dX10_stepsBetween_21 : decode cX10_stepsBetween 21 = .ok (.goto 5, 3) := by decide +kernel
theorem dX10_stepsBetween_24 : decode cX10_stepsBetween 24 = .ok (.bipush (-2), 2) := by decide +kernel
theorem dX10_stepsBetween_26 : decode cX10_stepsBetween 26 = .ok (.iastore, 1) := by decide +kernel
theorem dX10_stepsBetween_27 : decode cX10_stepsBetween 27 = .ok (.iload_n 1, 1) := by decide +kernel
theorem dX10_stepsBetween_28 : decode cX10_stepsBetween 28 = .ok (.istore 4, 2) := by decide +kernel
theorem dX10_stepsBetween_30 : decode cX10_stepsBetween 30 = .ok (.iload 4, 2) := by decide +kernel
theorem dX10_stepsBetween_32 : decode cX10_stepsBetween 32 = .ok (.iload_n 3, 1) := by decide +kernel
theorem dX10_stepsBetween_33 : decode cX10_stepsBetween 33 = .ok (.if_icmp .ge 88, 3) := by decide +kernel
theorem dX10_stepsBetween_36 : decode cX10_stepsBetween 36 = .ok (.aload_n 0, 1) := by decide +kernel
theorem dX10_stepsBetween_37 : decode cX10_stepsBetween 37 = .ok (.getfield 25, 3) := by decide +kernel
theorem dX10_stepsBetween_40 : decode cX10_stepsBetween 40 = .ok (.iload 4, 2) := by decide +kernel
theorem dX10_stepsBetween_42 : decode cX10_stepsBetween 42 = .ok (.iaload, 1) := by decide +kernel
theorem dX10_stepsBetween_43 : decode cX10_stepsBetween 43 = .ok (.ifCond .lt 22, 3) := by decide +kernel
theorem dX10_stepsBetween_46 : decode cX10_stepsBetween 46 = .ok (.aload_n 0, 1) := by decide +kernel
theorem dX10_stepsBetween_47 : decode cX10_stepsBetween 47 = .ok (.getfield 9, 3) := by decide +kernel
theorem dX10_stepsBetween_50 : decode cX10_stepsBetween 50 = .ok (.iload 4, 2) := by decide +kernel
theorem dX10_stepsBetween_52 : decode cX10_stepsBetween 52 = .ok (.bipush 8, 2) := by decide +kernel
theorem dX10_stepsBetween_54 : decode cX10_stepsBetween 54 = .ok (.imul, 1) := by decide +kernel
theorem dX10_stepsBetween_55 : decode cX10_stepsBetween 55 = .ok (.iload_n 3, 1) := by decide +kernel
theorem dX10_stepsBetween_56 : decode cX10_stepsBetween 56 = .ok (.iadd, 1) := by decide +kernel
theorem dX10_stepsBetween_57 : decode cX10_stepsBetween 57 = .ok (.iaload, 1) := by decide +kernel
theorem dX10_stepsBetween_58 : decode cX10_stepsBetween 58 = .ok (.ifCond .le 7, 3) := by decide +kernel
theorem dX10_stepsBetween_61 : decode cX10_stepsBetween 61 = .ok (.iconst 1, 1) := by decide +kernel
theorem dX10_stepsBetween_62 : decode cX10_stepsBetween 62 = .ok (.goto 4, 3) := by decide +kernel
theorem dX10_stepsBetween_65 : decode cX10_stepsBetween 65 = .ok (.iconst 0, 1) := by decide +kernel
theorem dX10_stepsBetween_66 : decode cX10_stepsBetween 66 = .ok (.istore 5, 2) := by decide +kernel
theorem dX10_stepsBetween_68 : decode cX10_stepsBetween 68 = .ok (.iload 5, 2) := by decide +kernel
theorem dX10_stepsBetween_70 : decode cX10_stepsBetween 70 = .ok (.ifCond .eq 45, 3) := by decide +kernel
theorem dX10_stepsBetween_73 : decode cX10_stepsBetween 73 = .ok (.aload_n 0, 1) := by decide +kernel
theorem dX10_stepsBetween_74 : decode cX10_stepsBetween 74 = .ok (.getfield 25, 3) := by decide +kernel
theorem dX10_stepsBetween_77 : decode cX10_stepsBetween 77 = .ok (.iload_n 3, 1) := by decide +kernel
theorem dX10_stepsBetween_78 : decode cX10_stepsBetween 78 = .ok (.iaload, 1) := by decide +kernel
theorem dX10_stepsBetween_79 : decode cX10_stepsBetween 79 = .ok (.ifCond .lt 21, 3) := by decide +kernel
theorem dX10_stepsBetween_82 : decode cX10_stepsBetween 82 = .ok (.aload_n 0, 1) := by decide +kernel
theorem dX10_stepsBetween_83 : decode cX10_stepsBetween 83 = .ok (.getfield 25, 3) := by decide +kernel
theorem dX10_stepsBetween_86 : decode cX10_stepsBetween 86 = .ok (.iload 4, 2) := by decide +kernel
theorem dX10_stepsBetween_88 : decode cX10_stepsBetween 88 = .ok (.iaload, 1) := by decide +kernel
theorem dX10_stepsBetween_89 : decode cX10_stepsBetween 89 = .ok (.iconst 1, 1) := by decide +kernel
theorem dX10_stepsBetween_90 : decode cX10_stepsBetween 90 = .ok (.iadd, 1) := by decide +kernel
theorem dX10_stepsBetween_91 : decode cX10_stepsBetween 91 = .ok (.aload_n 0, 1) := by decide +kernel
theorem dX10_stepsBetween_92 : decode cX10_stepsBetween 92 = .ok (.getfield 25, 3) := by decide +kernel
theorem dX10_stepsBetween_95 : decode cX10_stepsBetween 95 = .ok (.iload_n 3, 1) := by decide +kernel
theorem dX10_stepsBetween_96 : decode cX10_stepsBetween 96 = .ok (.iaload, 1) := by decide +kernel
theorem dX10_stepsBetween_97 : decode cX10_stepsBetween 97 = .ok (.if_icmp .ge 18, 3) := by decide +kernel
theorem dX10_stepsBetween_100 : decode cX10_stepsBetween 100 = .ok (.aload_n 0, 1) := by decide +kernel
theorem dX10_stepsBetween_101 : decode cX10_stepsBetween 101 = .ok (.getfield 25, 3) := by decide +kernel
theorem dX10_stepsBetween_104 : decode cX10_stepsBetween 104 = .ok (.iload_n 3, 1) := by decide +kernel
theorem dX10_stepsBetween_105 : decode cX10_stepsBetween 105 = .ok (.aload_n 0, 1) := by decide +kernel
theorem dX10_stepsBetween_106 : decode cX10_stepsBetween 106 = .ok (.getfield 25, 3) := by decide +kernel
theorem dX10_stepsBetween_109 : decode cX10_stepsBetween 109 = .ok (.iload 4, 2) := by decide +kernel
theorem dX10_stepsBetween_111 : decode cX10_stepsBetween 111 = .ok (.iaload, 1) := by decide +kernel
theorem dX10_stepsBetween_112 : decode cX10_stepsBetween 112 = .ok (.iconst 1, 1) := by decide +kernel
theorem dX10_stepsBetween_113 : decode cX10_stepsBetween 113 = .ok (.iadd, 1) := by decide +kernel
theorem dX10_stepsBetween_114 : decode cX10_stepsBetween 114 = .ok (.iastore, 1) := by decide +kernel
theorem dX10_stepsBetween_115 : decode cX10_stepsBetween 115 = .ok (.iinc 4 1, 3) := by decide +kernel
theorem dX10_stepsBetween_118 : decode cX10_stepsBetween 118 = .ok (.goto (-88), 3) := by decide +kernel
theorem dX10_stepsBetween_121 : decode cX10_stepsBetween 121 = .ok (.iinc 3 1, 3) := by decide +kernel
theorem dX10_stepsBetween_124 : decode cX10_stepsBetween 124 = .ok (.goto (-122), 3) := by decide +kernel
theorem dX10_stepsBetween_127 : decode cX10_stepsBetween 127 = .ok (.aload_n 0, 1) := by decide +kernel
theorem dX10_stepsBetween_128 : decode cX10_stepsBetween 128 = .ok (.getfield 25, 3) := by decide +kernel
theorem dX10_stepsBetween_131 : decode cX10_stepsBetween 131 = .ok (.iload_n 2, 1) := by decide +kernel
theorem dX10_stepsBetween_132 : decode cX10_stepsBetween 132 = .ok (.iaload, 1) := by decide +kernel
theorem dX10_stepsBetween_133 : decode cX10_stepsBetween 133 = .ok (.ireturn, 1) := by decide +kernel
theorem dX11_init_0 : decode cX11_init 0 = .ok (.aload_n 0, 1) := by decide +kernel
theorem dX11_init_1 : decode cX11_init 1 = .ok (.invokespecial 1, 3) := by decide +kernel
theorem dX11_init_4 : decode cX11_init 4 = .ok (.aload_n 0, 1) := by decide +kernel
theorem dX11_init_5 : decode cX11_init 5 = .ok (.new 7, 3) := by decide +kernel
theorem dX11_init_8 : decode cX11_init 8 = .ok (.dup, 1) := by decide +kernel
theorem dX11_init_9 : decode cX11_init 9 = .ok (.invokespecial 9, 3) := by decide +kernel
theorem dX11_init_12 : decode cX11_init 12 = .ok (.putfield 10, 3) := by decide +kernel
theorem dX11_init_15 : decode cX11_init 15 = .ok (.aload_n 0, 1) := by decide +kernel
theorem dX11_init_16 : decode cX11_init 16 = .ok (.new 16, 3) := by decide +kernel
theorem dX11_init_19 : decode cX11_init 19 = .ok (.dup, 1) := by decide +kernel
theorem dX11_init_20 : decode cX11_init 20 = .ok (.invokespecial 18, 3) := by decide +kernel
theorem dX11_init_23 : decode cX11_init 23 = .ok (.putfield 19, 3) := by decide +kernel
theorem dX11_init_26 : decode cX11_init 26 = .ok (.aload_n 0, 1) := by decide +kernel
theorem dX11_init_27 : decode cX11_init 27 = .ok (.new 16, 3) := by decide +kernel
theorem dX11_init_30 : decode cX11_init 30 = .ok (.dup, 1) := by decide +kernel
theorem dX11_init_31 : decode cX11_init 31 = .ok (.invokespecial 18, 3) := by decide +kernel
theorem dX11_init_34 : decode cX11_init 34 = .ok (.putfield 23, 3) := by decide +kernel
theorem dX11_init_37 : decode cX11_init 37 = .ok (.aload_n 0, 1) := by decide +kernel
theorem dX11_init_38 : decode cX11_init 38 = .ok (.new 26, 3) := by decide +kernel
theorem dX11_init_41 : decode cX11_init 41 = .ok (.dup, 1) := by decide +kernel
theorem dX11_init_42 : decode cX11_init 42 = .ok (.invokespecial 28, 3) := by decide +kernel
theorem dX11_init_45 : decode cX11_init 45 = .ok (.putfield 29, 3) := by decide +kernel
theorem dX11_init_48 : decode cX11_init 48 = .ok (.aload_n 0, 1) := by decide +kernel
theorem dX11_init_49 : decode cX11_init 49 = .ok (.new 33, 3) := by decide +kernel
theorem dX11_init_52 : decode cX11_init 52 = .ok (.dup, 1) := by decide +kernel
theorem dX11_init_53 : decode cX11_init 53 = .ok (.invokespecial 35, 3) := by decide +kernel
theorem dX11_init_56 : decode cX11_init 56 = .ok (.putfield 36, 3) := by decide +kernel
theorem dX11_init_59 : decode cX11_init 59 = .ok (.aload_n 0, 1) := by decide +kernel
theorem dX11_init_60 : decode cX11_init 60 = .ok (.new 40, 3) := by decide +kernel
theorem dX11_init_63 : decode cX11_init 63 = .ok (.dup, 1) := by decide +kernel
theorem dX11_init_64 : decode cX11_init 64 = .ok (.invokespecial 42, 3) := by decide +kernel
theorem dX11_init_67 : decode cX11_init 67 = .ok (.putfield 43, 3) := by decide +kernel
theorem dX11_init_70 : decode cX11_init 70 = .ok (.aload_n 0, 1) := by decide +kernel
theorem dX11_init_71 : decode cX11_init 71 = .ok (.new 47, 3) := by decide +kernel
theorem dX11_init_74 : decode cX11_init 74 = .ok (.dup, 1) := by decide +kernel
theorem dX11_init_75 : decode cX11_init 75 = .ok (.invokespecial 49, 3) := by decide +kernel
theorem dX11_init_78 : decode cX11_init 78 = .ok (.putfield 50, 3) := by decide +kernel
theorem dX11_init_81 : decode cX11_init 81 = .ok (.aload_n 0, 1) := by decide +kernel
theorem dX11_init_82 : decode cX11_init 82 = .ok (.new 54, 3) := by decide +kernel
theorem dX11_init_85 : decode cX11_init 85 = .ok (.dup, 1) := by decide +kernel
theorem dX11_init_86 : decode cX11_init 86 = .ok (.invokespecial 56, 3) := by decide +kernel
theorem dX11_init_89 : decode cX11_init 89 = .ok (.putfield 57, 3) := by decide +kernel
theorem dX11_init_92 : decode cX11_init 92 = .ok (.aload_n 0, 1) := by decide +kernel
theorem dX11_init_93 : decode cX11_init 93 = .ok (.new 61, 3) := by decide +kernel
theorem dX11_init_96 : decode cX11_init 96 = .ok (.dup, 1) := by decide +kernel
theorem dX11_init_97 : decode cX11_init 97 = .ok (.invokespecial 63, 3) := by decide +kernel
theorem dX11_init_100 : decode cX11_init 100 = .ok (.putfield 64, 3) := by decide +kernel
theorem dX11_init_103 : decode cX11_init 103 = .ok (.aload_n 0, 1) := by decide +kernel
theorem dX11_init_104 : decode cX11_init 104 = .ok (.new 68, 3) := by decide +kernel
theorem dX11_init_107 : decode cX11_init 107 = .ok (.dup, 1) := by decide +kernel
theorem dX11_init_108 : decode cX11_init 108 = .ok (.invokespecial 70, 3) := by decide +kernel
theorem dX11_init_111 : decode cX11_init 111 = .ok (.putfield 71, 3) := by decide +kernel
theorem dX11_init_114 : decode cX11_init 114 = .ok (.aload_n 0, 1) := by decide +kernel
theorem dX11_init_115 : decode cX11_init 115 = .ok (.new 75, 3) := by decide +kernel
theorem dX11_init_118 : decode cX11_init 118 = .ok (.dup, 1) := by decide +kernel
theorem dX11_init_119 : decode cX11_init 119 = .ok (.invokespecial 77, 3) := by decide +kernel
theorem dX11_init_122 : decode cX11_init 122 = .ok (.putfield 78, 3) := by decide +kernel
theorem dX11_init_125 : decode cX11_init 125 = .ok (.aload_n 0, 1) := by decide +kernel
theorem dX11_init_126 : decode cX11_init 126 = .ok (.new 26, 3) := by decide +kernel
theorem dX11_init_129 : decode cX11_init 129 = .ok (.dup, 1) := by decide +kernel
theorem dX11_init_130 : decode cX11_init 130 = .ok (.invokespecial 28, 3) := by decide +kernel
theorem dX11_init_133 : decode cX11_init 133 = .ok (.putfield 82, 3) := by decide +kernel
theorem dX11_init_136 : decode cX11_init 136 = .ok (.aload_n 0, 1) := by decide +kernel
theorem dX11_init_137 : decode cX11_init 137 = .ok (.new 54, 3) := by decide +kernel
theorem dX11_init_140 : decode cX11_init 140 = .ok (.dup, 1) := by decide +kernel
theorem dX11_init_141 : decode cX11_init 141 = .ok (.invokespecial 56, 3) := by decide +kernel
theorem dX11_init_144 : decode cX11_init 144 = .ok (.putfield 85, 3) := by decide +kernel
theorem dX11_init_147 : decode cX11_init 147 = .ok (.aload_n 0, 1) := by decide +kernel
theorem dX11_init_148 : decode cX11_init 148 = .ok (.new 61, 3) := by decide +kernel
theorem dX11_init_151 : decode cX11_init 151 = .ok (.dup, 1) := by decide +kernel
theorem dX11_init_152 : decode cX11_init 152 = .ok (.invokespecial 63, 3) := by decide +kernel
theorem dX11_init_155 : decode cX11_init 155 = .ok (.putfield 88, 3) := by decide +kernel
theorem dX11_init_158 : decode cX11_init 158 = .ok (.aload_n 0, 1) := by decide +kernel
theorem dX11_init_159 : decode cX11_init 159 = .ok (.new 68, 3) := by decide +kernel
theorem dX11_init_162 : decode cX11_init 162 = .ok (.dup, 1) := by decide +kernel
theorem dX11_init_163 : decode cX11_init 163 = .ok (.invokespecial 70, 3) := by decide +kernel
theorem dX11_init_166 : decode cX11_init 166 = .ok (.putfield 91, 3) := by decide +kernel
theorem dX11_init_169 : decode cX11_init 169 = .ok (.aload_n 0, 1) := by decide +kernel
theorem dX11_init_170 : decode cX11_init 170 = .ok (.bipush 12, 2) := by decide +kernel
theorem dX11_init_172 : decode cX11_init 172 = .ok (.newarray .int, 2) := by decide +kernel
theorem dX11_init_174 : decode cX11_init 174 = .ok (.putfield 94, 3) := by decide +kernel
theorem dX11_init_177 : decode cX11_init 177 = .ok (.aload_n 0, 1) := by decide +kernel
theorem dX11_init_178 : decode cX11_init 178 = .ok (.iconst 0, 1) := by decide +kernel
theorem dX11_init_179 : decode cX11_init 179 = .ok (.putfield 98, 3) := by decide +kernel
theorem dX11_init_182 : decode cX11_init 182 = .ok (.aload_n 0, 1) := by decide +kernel
theorem dX11_init_183 : decode cX11_init 183 = .ok (.iconst 0, 1) := by decide +kernel
theorem dX11_init_184 : decode cX11_init 184 = .ok (.putfield 102, 3) := by decide +kernel
theorem dX11_init_187 : decode cX11_init 187 = .ok (.return_, 1) := by decide +kernel
theorem dX11_feed_0 : decode cX11_feed 0 = .ok (.aload_n 0, 1) := by decide +kernel
theorem dX11_feed_1 : decode cX11_feed 1 = .ok (.getfield 10, 3) := by decide +kernel
theorem dX11_feed_4 : decode cX11_feed 4 = .ok (.getfield 105, 3) := by decide +kernel
theorem dX11_feed_7 : decode cX11_feed 7 = .ok (.bipush 20, 2) := by decide +kernel
theorem dX11_feed_9 : decode cX11_feed 9 = .ok (.iadd, 1) := by decide +kernel
theorem dX11_feed_10 : decode cX11_feed 10 = .ok (.sipush 700, 3) := by decide +kernel
theorem dX11_feed_13 : decode cX11_feed 13 = .ok (.if_icmp .le 5, 3) := by decide +kernel
theorem dX11_feed_16 : decode cX11_feed 16 = .ok (.iconst (-1), 1) := by decide +kernel
theorem dX11_feed_17 : decode cX11_feed 17 = .ok (.ireturn, 1) := by decide +kernel
theorem dX11_feed_18 : decode cX11_feed 18 = .ok (.aload_n 0, 1) := by decide +kernel
theorem dX11_feed_19 : decode cX11_feed 19 = .ok (.getfield 10, 3) := by decide +kernel
theorem dX11_feed_22 : decode cX11_feed 22 = .ok (.iload_n 1, 1) := by decide +kernel
theorem dX11_feed_23 : decode cX11_feed 23 = .ok (.invokevirtual 109, 3) := by decide +kernel
theorem dX11_feed_26 : decode cX11_feed 26 = .ok (.aload_n 0, 1) := by decide +kernel
theorem dX11_feed_27 : decode cX11_feed 27 = .ok (.getfield 10, 3) := by decide +kernel
theorem dX11_feed_30 : decode cX11_feed 30 = .ok (.iload_n 2, 1) := by decide +kernel
theorem dX11_feed_31 : decode cX11_feed 31 = .ok (.invokevirtual 109, 3) := by decide +kernel
theorem dX11_feed_34 : decode cX11_feed 34 = .ok (.aload_n 0, 1) := by decide +kernel
theorem dX11_feed_35 : decode cX11_feed 35 = .ok (.getfield 10, 3) := by decide +kernel
theorem dX11_feed_38 : decode cX11_feed 38 = .ok (.iload_n 3, 1) := by decide +kernel
theorem dX11_feed_39 : decode cX11_feed 39 = .ok (.invokevirtual 109, 3) := by decide +kernel
theorem dX11_feed_42 : decode cX11_feed 42 = .ok (.aload_n 0, 1) := by decide +kernel
theorem dX11_feed_43 : decode cX11_feed 43 = .ok (.getfield 10, 3) := by decide +kernel
theorem dX11_feed_46 : decode cX11_feed 46 = .ok (.iload 4, 2) := by decide +kernel
theorem dX11_feed_48 : decode cX11_feed 48 = .ok (.invokevirtual 109, 3) := by decide +kernel
theorem dX11_feed_51 : decode cX11_feed 51 = .ok (.aload_n 0, 1) := by decide +kernel
theorem dX11_feed_52 : decode cX11_feed 52 = .ok (.getfield 10, 3) := by decide +kernel
theorem dX11_feed_55 : decode cX11_feed 55 = .ok (.iload 5, 2) := by decide +kernel
theorem dX11_feed_57 : decode cX11_feed 57 = .ok (.invokevirtual 109, 3) := by decide +kernel
theorem dX11_feed_60 : decode cX11_feed 60 = .ok (.aload_n 0, 1) := by decide +kernel
theorem dX11_feed_61 : decode cX11_feed 61 = .ok (.getfield 10, 3) := by decide +kernel
theorem dX11_feed_64 : decode cX11_feed 64 = .ok (.getfield 105, 3) := by decide +kernel
theorem dX11_feed_67 : decode cX11_feed 67 = .ok (.ireturn, 1) := by decide +kernel
theorem dX11_text_0 : decode cX11_text 0 = .ok (.iload_n 1, 1) := by decide +kernel
theorem dX11_text_1 : decode cX11_text 1 = .ok (.ifCond .lt 14, 3) := by decide +kernel
theorem dX11_text_4 : decode cX11_text 4 = .ok (.iload_n 1, 1) := by decide +kernel
theorem dX11_text_5 : decode cX11_text 5 = .ok (.aload_n 0, 1) := by decide +kernel
theorem dX11_text_6 : decode cX11_text 6 = .ok (.getfield 10, 3) := by decide +kernel
theorem dX11_text_9 : decode cX11_text 9 = .ok (.getfield 105, 3) := by decide +kernel
theorem dX11_text_12 : decode cX11_text 12 = .ok (.if_icmp .le 6, 3) := by decide +kernel
theorem dX11_text_15 : decode cX11_text 15 = .ok (.bipush (-2), 2) := by decide +kernel
theorem dX11_text_17 : decode cX11_text 17 = .ok (.ireturn, 1) := by decide +kernel
theorem dX11_text_18 : decode cX11_text 18 = .ok (.aload_n 0, 1) := by decide +kernel
theorem dX11_text_19 : decode cX11_text 19 = .ok (.getfield 10, 3) := by decide +kernel
theorem dX11_text_22 : decode cX11_text 22 = .ok (.aload_n 0, 1) := by decide +kernel
theorem dX11_text_23 : decode cX11_text 23 = .ok (.getfield 23, 3) := by decide +kernel
theorem dX11_text_26 : decode cX11_text 26 = .ok (.iload_n 1, 1) := by decide +kernel
theorem dX11_text_27 : decode cX11_text 27 = .ok (.invokevirtual 113, 3) := by decide +kernel
theorem dX11_text_30 : decode cX11_text 30 = .ok (.istore_n 2, 1) := by decide +kernel
theorem dX11_text_31 : decode cX11_text 31 = .ok (.iload_n 2, 1) := by decide +kernel
theorem dX11_text_32 : decode cX11_text 32 = .ok (.ifCond .ne 5, 3) := by decide +kernel
theorem dX11_text_35 : decode cX11_text 35 = .ok (.iconst (-1), 1) := by decide +kernel
theorem dX11_text_36 : decode cX11_text 36 = .ok (.ireturn, 1) := by decide +kernel
theorem dX11_text_37 : decode cX11_text 37 = .ok (.aload_n 0, 1) := by decide +kernel
theorem dX11_text_38 : decode cX11_text 38 = .ok (.getfield 23, 3) := by decide +kernel
theorem dX11_text_41 : decode cX11_text 41 = .ok (.astore_n 3, 1) := by decide +kernel
theorem dX11_text_42 : decode cX11_text 42 = .ok (.aload_n 0, 1) := by decide +kernel
theorem dX11_text_43 : decode cX11_text 43 = .ok (.aload_n 0, 1) := by decide +kernel
theorem dX11_text_44 : decode cX11_text 44 = .ok (.getfield 19, 3) := by decide +kernel
theorem dX11_text_47 : decode cX11_text 47 = .ok (.putfield 23, 3) := by decide +kernel
theorem dX11_text_50 : decode cX11_text 50 = .ok (.aload_n 0, 1) := by decide +kernel
theorem dX11_text_51 : decode cX11_text 51 = .ok (.aload_n 3, 1) := by decide +kernel
theorem dX11_text_52 : decode cX11_text 52 = .ok (.putfield 19, 3) := by decide +kernel
theorem dX11_text_55 : decode cX11_text 55 = .ok (.aload_n 0, 1) := by decide +kernel
theorem dX11_text_56 : decode cX11_text 56 = .ok (.getfield 29, 3) := by decide +kernel
theorem dX11_text_59 : decode cX11_text 59 = .ok (.invokevirtual 117, 3) := by decide +kernel
theorem dX11_text_62 : decode cX11_text 62 = .ok (.aload_n 0, 1) := by decide +kernel
theorem dX11_text_63 : decode cX11_text 63 = .ok (.getfield 36, 3) := by decide +kernel
theorem dX11_text_66 : decode cX11_text 66 = .ok (.invokevirtual 120, 3) := by decide +kernel
theorem dX11_text_69 : decode cX11_text 69 = .ok (.aload_n 0, 1) := by decide +kernel
theorem dX11_text_70 : decode cX11_text 70 = .ok (.getfield 43, 3) := by decide +kernel
theorem dX11_text_73 : decode cX11_text 73 = .ok (.iconst 0, 1) := by decide +kernel
theorem dX11_text_74 : decode cX11_text 74 = .ok (.putfield 121, 3) := by decide +kernel
theorem dX11_text_77 : decode cX11_text 77 = .ok (.aload_n 0, 1) := by decide +kernel
theorem dX11_text_78 : decode cX11_text 78 = .ok (.invokevirtual 124, 3) := by decide +kernel
theorem dX11_text_81 : decode cX11_text 81 = .ok (.aload_n 0, 1) := by decide +kernel
theorem dX11_text_82 : decode cX11_text 82 = .ok (.getfield 10, 3) := by decide +kernel
theorem dX11_text_85 : decode cX11_text 85 = .ok (.getfield 127, 3) := by decide +kernel
theorem dX11_text_88 : decode cX11_text 88 = .ok (.ireturn, 1) := by decide +kernel
theorem dX11_fault_0 : decode cX11_fault 0 = .ok (.iload_n 1, 1) := by decide +kernel
theorem dX11_fault_1 : decode cX11_fault 1 = .ok (.ifCond .ne 11, 3) := by decide +kernel
theorem dX11_fault_4 : decode cX11_fault 4 = .ok (.aload_n 0, 1) := by decide +kernel
theorem dX11_fault_5 : decode cX11_fault 5 = .ok (.getfield 10, 3) := by decide +kernel
theorem dX11_fault_8 : decode cX11_fault 8 = .ok (.getfield 130, 3) := by decide +kernel
theorem dX11_fault_11 : decode cX11_fault 11 = .ok (.ireturn, 1) := by decide +kernel
theorem dX11_fault_12 : decode cX11_fault 12 = .ok (.iload_n 1, 1) := by decide +kernel
theorem dX11_fault_13 : decode cX11_fault 13 = .ok (.iconst 1, 1) := by decide +kernel
theorem dX11_fault_14 : decode cX11_fault 14 = .ok (.if_icmp .ne 13, 3) := by decide +kernel
theorem dX11_fault_17 : decode cX11_fault 17 = .ok (.aload_n 0, 1) := by decide +kernel
theorem dX11_fault_18 : decode cX11_fault 18 = .ok (.getfield 10, 3) := by decide +kernel
theorem dX11_fault_21 : decode cX11_fault 21 = .ok (.getfield 133, 3) := by decide +kernel
theorem dX11_fault_24 : decode cX11_fault 24 = .ok (.goto 4, 3) := by decide +kernel
theorem dX11_fault_27 : decode cX11_fault 27 = .ok (.iconst (-1), 1) := by decide +kernel
theorem dX11_fault_28 : decode cX11_fault 28 = .ok (.ireturn, 1) := by decide +kernel
theorem dX11_named_0 : decode cX11_named 0 = .ok (.aload_n 0, 1) := by decide +kernel
theorem dX11_named_1 : decode cX11_named 1 = .ok (.getfield 19, 3) := by decide +kernel
theorem dX11_named_4 : decode cX11_named 4 = .ok (.iload_n 1, 1) := by decide +kernel
theorem dX11_named_5 : decode cX11_named 5 = .ok (.invokevirtual 136, 3) := by decide +kernel
theorem dX11_named_8 : decode cX11_named 8 = .ok (.ireturn, 1) := by decide +kernel
theorem dX11_member_0 : decode cX11_member 0 = .ok (.aload_n 0, 1) := by decide +kernel
theorem dX11_member_1 : decode cX11_member 1 = .ok (.getfield 19, 3) := by decide +kernel
theorem dX11_member_4 : decode cX11_member 4 = .ok (.iload_n 1, 1) := by decide +kernel
theorem dX11_member_5 : decode cX11_member 5 = .ok (.invokevirtual 140, 3) := by decide +kernel
theorem dX11_member_8 : decode cX11_member 8 = .ok (.ifCond .ne 13, 3) := by decide +kernel
theorem dX11_member_11 : decode cX11_member 11 = .ok (.new 144, 3) := by decide +kernel
theorem dX11_member_14 : decode cX11_member 14 = .ok (.dup, 1) := by decide +kernel
theorem dX11_member_15 : decode cX11_member 15 = .ok (.ldc 146, 2) := by decide +kernel
theorem dX11_member_17 : decode cX11_member 17 = .ok (.invokespecial 148, 3) := by decide +kernel
theorem dX11_member_20 : decode cX11_member 20 = .ok (.athrow, 1) := by decide +kernel
theorem dX11_member_21 : decode cX11_member 21 = .ok (.iload_n 2, 1) := by decide +kernel
theorem dX11_member_22 : decode cX11_member 22 = .ok (.tableswitch 55 0 2 #[26, 36, 46], 26) := by decide +kernel
theorem dX11_member_48 : decode cX11_member 48 = .ok (.aload_n 0, 1) := by decide +kernel
theorem dX11_member_49 : decode cX11_member 49 = .ok (.getfield 19, 3) := by decide +kernel
theorem dX11_member_52 : decode cX11_member 52 = .ok (.getfield 151, 3) := by decide +kernel
theorem dX11_member_55 : decode cX11_member 55 = .ok (.iload_n 1, 1) := by decide +kernel
theorem dX11_member_56 : decode cX11_member 56 = .ok (.iaload, 1) := by decide +kernel
theorem dX11_member_57 : decode cX11_member 57 = .ok (.ireturn, 1) := by decide +kernel
theorem dX11_member_58 : decode cX11_member 58 = .ok (.aload_n 0, 1) := by decide +kernel
theorem dX11_member_59 : decode cX11_member 59 = .ok (.getfield 19, 3) := by decide +kernel
theorem dX11_member_62 : decode cX11_member 62 = .ok (.getfield 154, 3) := by decide +kernel
theorem dX11_member_65 : decode cX11_member 65 = .ok (.iload_n 1, 1) := by decide +kernel
theorem dX11_member_66 : decode cX11_member 66 = .ok (.iaload, 1) := by decide +kernel
theorem dX11_member_67 : decode cX11_member 67 = .ok (.ireturn, 1) := by decide +kernel
theorem dX11_member_68 : decode cX11_member 68 = .ok (.aload_n 0, 1) := by decide +kernel
theorem dX11_member_69 : decode cX11_member 69 = .ok (.getfield 19, 3) := by decide +kernel
theorem dX11_member_72 : decode cX11_member 72 = .ok (.iload_n 1, 1) := by decide +kernel
theorem dX11_member_73 : decode cX11_member 73 = .ok (.invokevirtual 157, 3) := by decide +kernel
theorem dX11_member_76 : decode cX11_member 76 = .ok (.ireturn, 1) := by decide +kernel
theorem dX11_member_77 : decode cX11_member 77 = .ok (.new 160, 3) := by decide +kernel
theorem dX11_member_80 : decode cX11_member 80 = .ok (.dup, 1) := by decide +kernel
theorem dX11_member_81 : decode cX11_member 81 = .ok (.ldc 162, 2) := by decide +kernel
theorem dX11_member_83 : decode cX11_member 83 = .ok (.invokespecial 164, 3) := by decide +kernel
theorem dX11_member_86 : decode cX11_member 86 = .ok (.athrow, 1) := by decide +kernel
theorem dX11_period_0 : decode cX11_period 0 = .ok (.aload_n 0, 1) := by decide +kernel
theorem dX11_period_1 : decode cX11_period 1 = .ok (.getfield 19, 3) := by decide +kernel
theorem dX11_period_4 : decode cX11_period 4 = .ok (.iload_n 1, 1) := by decide +kernel
theorem dX11_period_5 : decode cX11_period 5 = .ok (.invokevirtual 165, 3) := by decide +kernel
theorem dX11_period_8 : decode cX11_period 8 = .ok (.ifCond .ne 6, 3) := by decide +kernel
theorem dX11_period_11 : decode cX11_period 11 = .ok (.ldc 168, 2) := by decide +kernel
theorem dX11_period_13 : decode cX11_period 13 = .ok (.ireturn, 1) := by decide +kernel
theorem dX11_period_14 : decode cX11_period 14 = .ok (.iload_n 2, 1) := by decide +kernel
theorem dX11_period_15 : decode cX11_period 15 = .ok (.tableswitch 96 0 5 #[37, 47, 57, 67, 77, 87], 37) := by decide +kernel
theorem dX11_period_52 : decode cX11_period 52 = .ok (.aload_n 0, 1) := by decide +kernel
theorem dX11_period_53 : decode cX11_period 53 = .ok (.getfield 19, 3) := by decide +kernel
theorem dX11_period_56 : decode cX11_period 56 = .ok (.getfield 169, 3) := by decide +kernel
theorem dX11_period_59 : decode cX11_period 59 = .ok (.iload_n 1, 1) := by decide +kernel
theorem dX11_period_60 : decode cX11_period 60 = .ok (.iaload, 1) := by decide +kernel
theorem dX11_period_61 : decode cX11_period 61 = .ok (.ireturn, 1) := by decide +kernel
theorem dX11_period_62 : decode cX11_period 62 = .ok (.aload_n 0, 1) := by decide +kernel
theorem dX11_period_63 : decode cX11_period 63 = .ok (.getfield 19, 3) := by decide +kernel
theorem dX11_period_66 : decode cX11_period 66 = .ok (.getfield 172, 3) := by decide +kernel
theorem dX11_period_69 : decode cX11_period 69 = .ok (.iload_n 1, 1) := by decide +kernel
theorem dX11_period_70 : decode cX11_period 70 = .ok (.iaload, 1) := by decide +kernel
theorem dX11_period_71 : decode cX11_period 71 = .ok (.ireturn, 1) := by decide +kernel
theorem dX11_period_72 : decode cX11_period 72 = .ok (.aload_n 0, 1) := by decide +kernel
theorem dX11_period_73 : decode cX11_period 73 = .ok (.getfield 19, 3) := by decide +kernel
theorem dX11_period_76 : decode cX11_period 76 = .ok (.getfield 175, 3) := by decide +kernel
theorem dX11_period_79 : decode cX11_period 79 = .ok (.iload_n 1, 1) := by decide +kernel
theorem dX11_period_80 : decode cX11_period 80 = .ok (.iaload, 1) := by decide +kernel
theorem dX11_period_81 : decode cX11_period 81 = .ok (.ireturn, 1) := by decide +kernel
theorem dX11_period_82 : decode cX11_period 82 = .ok (.aload_n 0, 1) := by decide +kernel
theorem dX11_period_83 : decode cX11_period 83 = .ok (.getfield 19, 3) := by decide +kernel
theorem dX11_period_86 : decode cX11_period 86 = .ok (.getfield 178, 3) := by decide +kernel
theorem dX11_period_89 : decode cX11_period 89 = .ok (.iload_n 1, 1) := by decide +kernel
theorem dX11_period_90 : decode cX11_period 90 = .ok (.iaload, 1) := by decide +kernel
theorem dX11_period_91 : decode cX11_period 91 = .ok (.ireturn, 1) := by decide +kernel
theorem dX11_period_92 : decode cX11_period 92 = .ok (.aload_n 0, 1) := by decide +kernel
theorem dX11_period_93 : decode cX11_period 93 = .ok (.aload_n 0, 1) := by decide +kernel
theorem dX11_period_94 : decode cX11_period 94 = .ok (.getfield 29, 3) := by decide +kernel
theorem dX11_period_97 : decode cX11_period 97 = .ok (.iload_n 1, 1) := by decide +kernel
theorem dX11_period_98 : decode cX11_period 98 = .ok (.invokevirtual 181, 3) := by decide +kernel
theorem dX11_period_101 : decode cX11_period 101 = .ok (.ireturn, 1) := by decide +kernel
theorem dX11_period_102 : decode cX11_period 102 = .ok (.aload_n 0, 1) := by decide +kernel
theorem dX11_period_103 : decode cX11_period 103 = .ok (.getfield 29, 3) := by decide +kernel
theorem dX11_period_106 : decode cX11_period 106 = .ok (.iload_n 1, 1) := by decide +kernel
theorem dX11_period_107 : decode cX11_period 107 = .ok (.invokevirtual 185, 3) := by decide +kernel
theorem dX11_period_110 : decode cX11_period 110 = .ok (.ireturn, 1) := by decide +kernel
theorem dX11_period_111 : decode cX11_period 111 = .ok (.ldc 168, 2) := by decide +kernel
theorem dX11_period_113 : decode cX11_period 113 = .ok (.ireturn, 1) := by decide +kernel
theorem dX11_percent_0 : decode cX11_percent 0 = .ok (.aload_n 0, 1) := by decide +kernel
theorem dX11_percent_1 : decode cX11_percent 1 = .ok (.iload_n 1, 1) := by decide +kernel
theorem dX11_percent_2 : decode cX11_percent 2 = .ok (.iload_n 2, 1) := by decide +kernel
theorem dX11_percent_3 : decode cX11_percent 3 = .ok (.invokevirtual 188, 3) := by decide +kernel
theorem dX11_percent_6 : decode cX11_percent 6 = .ok (.ifCond .eq 10, 3) := by decide +kernel
theorem dX11_percent_9 : decode cX11_percent 9 = .ok (.iload_n 3, 1) := by decide +kernel
theorem dX11_percent_10 : decode cX11_percent 10 = .ok (.invokestatic 192, 3) := by decide +kernel
theorem dX11_percent_13 : decode cX11_percent 13 = .ok (.ifCond .ne 5, 3) := by decide +kernel
theorem dX11_percent_16 : decode cX11_percent 16 = .ok (.iconst (-1), 1) := by decide +kernel
theorem dX11_percent_17 : decode cX11_percent 17 = .ok (.ireturn, 1) := by decide +kernel
theorem dX11_percent_18 : decode cX11_percent 18 = .ok (.aload_n 0, 1) := by decide +kernel
theorem dX11_percent_19 : decode cX11_percent 19 = .ok (.getfield 50, 3) := by decide +kernel
theorem dX11_percent_22 : decode cX11_percent 22 = .ok (.aload_n 0, 1) := by decide +kernel
theorem dX11_percent_23 : decode cX11_percent 23 = .ok (.getfield 19, 3) := by decide +kernel
theorem dX11_percent_26 : decode cX11_percent 26 = .ok (.iload_n 3, 1) := by decide +kernel
theorem dX11_percent_27 : decode cX11_percent 27 = .ok (.invokevirtual 195, 3) := by decide +kernel
theorem dX11_percent_30 : decode cX11_percent 30 = .ok (.aload_n 0, 1) := by decide +kernel
theorem dX11_percent_31 : decode cX11_percent 31 = .ok (.getfield 50, 3) := by decide +kernel
theorem dX11_percent_34 : decode cX11_percent 34 = .ok (.getfield 199, 3) := by decide +kernel
theorem dX11_percent_37 : decode cX11_percent 37 = .ok (.iload_n 1, 1) := by decide +kernel
theorem dX11_percent_38 : decode cX11_percent 38 = .ok (.bipush 8, 2) := by decide +kernel
theorem dX11_percent_40 : decode cX11_percent 40 = .ok (.imul, 1) := by decide +kernel
theorem dX11_percent_41 : decode cX11_percent 41 = .ok (.iload_n 2, 1) := by decide +kernel
theorem dX11_percent_42 : decode cX11_percent 42 = .ok (.iadd, 1) := by decide +kernel
theorem dX11_percent_43 : decode cX11_percent 43 = .ok (.iaload, 1) := by decide +kernel
theorem dX11_percent_44 : decode cX11_percent 44 = .ok (.ireturn, 1) := by decide +kernel
theorem dX11_share_0 : decode cX11_share 0 = .ok (.aload_n 0, 1) := by decide +kernel
theorem dX11_share_1 : decode cX11_share 1 = .ok (.iload_n 1, 1) := by decide +kernel
theorem dX11_share_2 : decode cX11_share 2 = .ok (.iload_n 2, 1) := by decide +kernel
theorem dX11_share_3 : decode cX11_share 3 = .ok (.invokevirtual 202, 3) := by decide +kernel
theorem dX11_share_6 : decode cX11_share 6 = .ok (.ifCond .eq 10, 3) := by decide +kernel
theorem dX11_share_9 : decode cX11_share 9 = .ok (.iload_n 3, 1) := by decide +kernel
theorem dX11_share_10 : decode cX11_share 10 = .ok (.invokestatic 192, 3) := by decide +kernel
theorem dX11_share_13 : decode cX11_share 13 = .ok (.ifCond .ne 5, 3) := by decide +kernel
theorem dX11_share_16 : decode cX11_share 16 = .ok (.iconst (-1), 1) := by decide +kernel
theorem dX11_share_17 : decode cX11_share 17 = .ok (.ireturn, 1) := by decide +kernel
theorem dX11_share_18 : decode cX11_share 18 = .ok (.aload_n 0, 1) := by decide +kernel
theorem dX11_share_19 : decode cX11_share 19 = .ok (.getfield 50, 3) := by decide +kernel
theorem dX11_share_22 : decode cX11_share 22 = .ok (.aload_n 0, 1) := by decide +kernel
theorem dX11_share_23 : decode cX11_share 23 = .ok (.getfield 19, 3) := by decide +kernel
theorem dX11_share_26 : decode cX11_share 26 = .ok (.iload_n 3, 1) := by decide +kernel
theorem dX11_share_27 : decode cX11_share 27 = .ok (.invokevirtual 195, 3) := by decide +kernel
theorem dX11_share_30 : decode cX11_share 30 = .ok (.aload_n 0, 1) := by decide +kernel
theorem dX11_share_31 : decode cX11_share 31 = .ok (.getfield 50, 3) := by decide +kernel
theorem dX11_share_34 : decode cX11_share 34 = .ok (.getfield 205, 3) := by decide +kernel
theorem dX11_share_37 : decode cX11_share 37 = .ok (.iload_n 1, 1) := by decide +kernel
theorem dX11_share_38 : decode cX11_share 38 = .ok (.bipush 8, 2) := by decide +kernel
theorem dX11_share_40 : decode cX11_share 40 = .ok (.imul, 1) := by decide +kernel
theorem dX11_share_41 : decode cX11_share 41 = .ok (.iload_n 2, 1) := by decide +kernel
theorem dX11_share_42 : decode cX11_share 42 = .ok (.iadd, 1) := by decide +kernel
theorem dX11_share_43 : decode cX11_share 43 = .ok (.faload, 1) := by decide +kernel
theorem dX11_share_44 : decode cX11_share 44 = .ok (.invokestatic 209, 3) := by decide +kernel
theorem dX11_share_47 : decode cX11_share 47 = .ok (.ireturn, 1) := by decide +kernel
theorem dX11_parts_0 : decode cX11_parts 0 = .ok (.aload_n 0, 1) := by decide +kernel
theorem dX11_parts_1 : decode cX11_parts 1 = .ok (.iload_n 1, 1) := by decide +kernel
theorem dX11_parts_2 : decode cX11_parts 2 = .ok (.iload_n 2, 1) := by decide +kernel
theorem dX11_parts_3 : decode cX11_parts 3 = .ok (.invokevirtual 202, 3) := by decide +kernel
theorem dX11_parts_6 : decode cX11_parts 6 = .ok (.ifCond .eq 10, 3) := by decide +kernel
theorem dX11_parts_9 : decode cX11_parts 9 = .ok (.iload_n 3, 1) := by decide +kernel
theorem dX11_parts_10 : decode cX11_parts 10 = .ok (.invokestatic 192, 3) := by decide +kernel
theorem dX11_parts_13 : decode cX11_parts 13 = .ok (.ifCond .ne 5, 3) := by decide +kernel
theorem dX11_parts_16 : decode cX11_parts 16 = .ok (.iconst (-1), 1) := by decide +kernel
theorem dX11_parts_17 : decode cX11_parts 17 = .ok (.ireturn, 1) := by decide +kernel
theorem dX11_parts_18 : decode cX11_parts 18 = .ok (.aload_n 0, 1) := by decide +kernel
theorem dX11_parts_19 : decode cX11_parts 19 = .ok (.getfield 50, 3) := by decide +kernel
theorem dX11_parts_22 : decode cX11_parts 22 = .ok (.aload_n 0, 1) := by decide +kernel
theorem dX11_parts_23 : decode cX11_parts 23 = .ok (.getfield 19, 3) := by decide +kernel
theorem dX11_parts_26 : decode cX11_parts 26 = .ok (.iload_n 3, 1) := by decide +kernel
theorem dX11_parts_27 : decode cX11_parts 27 = .ok (.invokevirtual 195, 3) := by decide +kernel
theorem dX11_parts_30 : decode cX11_parts 30 = .ok (.aload_n 0, 1) := by decide +kernel
theorem dX11_parts_31 : decode cX11_parts 31 = .ok (.getfield 50, 3) := by decide +kernel
theorem dX11_parts_34 : decode cX11_parts 34 = .ok (.getfield 205, 3) := by decide +kernel
theorem dX11_parts_37 : decode cX11_parts 37 = .ok (.iload_n 1, 1) := by decide +kernel
theorem dX11_parts_38 : decode cX11_parts 38 = .ok (.bipush 8, 2) := by decide +kernel
theorem dX11_parts_40 : decode cX11_parts 40 = .ok (.imul, 1) := by decide +kernel
theorem dX11_parts_41 : decode cX11_parts 41 = .ok (.iload_n 2, 1) := by decide +kernel
theorem dX11_parts_42 : decode cX11_parts 42 = .ok (.iadd, 1) := by decide +kernel
theorem dX11_parts_43 : decode cX11_parts 43 = .ok (.faload, 1) := by decide +kernel
theorem dX11_parts_44 : decode cX11_parts 44 = .ok (.f2d, 1) := by decide +kernel
theorem dX11_parts_45 : decode cX11_parts 45 = .ok (.dstore 4, 2) := by decide +kernel
theorem dX11_parts_47 : decode cX11_parts 47 = .ok (.dload 4, 2) := by decide +kernel
theorem dX11_parts_49 : decode cX11_parts 49 = .ok (.ldc2_w 213, 3) := by decide +kernel
theorem dX11_parts_52 : decode cX11_parts 52 = .ok (.dmul, 1) := by decide +kernel
theorem dX11_parts_53 : decode cX11_parts 53 = .ok (.ldc2_w 215, 3) := by decide +kernel
theorem dX11_parts_56 : decode cX11_parts 56 = .ok (.dadd, 1) := by decide +kernel
theorem dX11_parts_57 : decode cX11_parts 57 = .ok (.d2i, 1) := by decide +kernel
theorem dX11_parts_58 : decode cX11_parts 58 = .ok (.ireturn, 1) := by decide +kernel
theorem dX11_controls_0 : decode cX11_controls 0 = .ok (.aload_n 0, 1) := by decide +kernel
theorem dX11_controls_1 : decode cX11_controls 1 = .ok (.iload_n 1, 1) := by decide +kernel
theorem dX11_controls_2 : decode cX11_controls 2 = .ok (.iload_n 2, 1) := by decide +kernel
theorem dX11_controls_3 : decode cX11_controls 3 = .ok (.invokevirtual 188, 3) := by decide +kernel
theorem dX11_controls_6 : decode cX11_controls 6 = .ok (.ifCond .eq 10, 3) := by decide +kernel
theorem dX11_controls_9 : decode cX11_controls 9 = .ok (.iload_n 3, 1) := by decide +kernel
theorem dX11_controls_10 : decode cX11_controls 10 = .ok (.invokestatic 192, 3) := by decide +kernel
theorem dX11_controls_13 : decode cX11_controls 13 = .ok (.ifCond .ne 5, 3) := by decide +kernel
theorem dX11_controls_16 : decode cX11_controls 16 = .ok (.iconst (-1), 1) := by decide +kernel
theorem dX11_controls_17 : decode cX11_controls 17 = .ok (.ireturn, 1) := by decide +kernel
theorem dX11_controls_18 : decode cX11_controls 18 = .ok (.aload_n 0, 1) := by decide +kernel
theorem dX11_controls_19 : decode cX11_controls 19 = .ok (.getfield 50, 3) := by decide +kernel
theorem dX11_controls_22 : decode cX11_controls 22 = .ok (.aload_n 0, 1) := by decide +kernel
theorem dX11_controls_23 : decode cX11_controls 23 = .ok (.getfield 19, 3) := by decide +kernel
theorem dX11_controls_26 : decode cX11_controls 26 = .ok (.iload_n 3, 1) := by decide +kernel
theorem dX11_controls_27 : decode cX11_controls 27 = .ok (.invokevirtual 195, 3) := by decide +kernel
theorem dX11_controls_30 : decode cX11_controls 30 = .ok (.aload_n 0, 1) := by decide +kernel
theorem dX11_controls_31 : decode cX11_controls 31 = .ok (.getfield 50, 3) := by decide +kernel
theorem dX11_controls_34 : decode cX11_controls 34 = .ok (.aload_n 0, 1) := by decide +kernel
theorem dX11_controls_35 : decode cX11_controls 35 = .ok (.getfield 19, 3) := by decide +kernel
theorem dX11_controls_38 : decode cX11_controls 38 = .ok (.getfield 217, 3) := by decide +kernel
theorem dX11_controls_41 : decode cX11_controls 41 = .ok (.invokevirtual 220, 3) := by decide +kernel
theorem dX11_controls_44 : decode cX11_controls 44 = .ok (.aload_n 0, 1) := by decide +kernel
theorem dX11_controls_45 : decode cX11_controls 45 = .ok (.getfield 50, 3) := by decide +kernel
theorem dX11_controls_48 : decode cX11_controls 48 = .ok (.getfield 223, 3) := by decide +kernel
theorem dX11_controls_51 : decode cX11_controls 51 = .ok (.iload_n 1, 1) := by decide +kernel
theorem dX11_controls_52 : decode cX11_controls 52 = .ok (.iaload, 1) := by decide +kernel
theorem dX11_controls_53 : decode cX11_controls 53 = .ok (.iload_n 2, 1) := by decide +kernel
theorem dX11_controls_54 : decode cX11_controls 54 = .ok (.ishr, 1) := by decide +kernel
theorem dX11_controls_55 : decode cX11_controls 55 = .ok (.iconst 1, 1) := by decide +kernel
theorem dX11_controls_56 : decode cX11_controls 56 = .ok (.iand, 1) := by decide +kernel
theorem dX11_controls_57 : decode cX11_controls 57 = .ok (.ireturn, 1) := by decide +kernel
theorem dX11_related_0 : decode cX11_related 0 = .ok (.aload_n 0, 1) := by decide +kernel
theorem dX11_related_1 : decode cX11_related 1 = .ok (.getfield 19, 3) := by decide +kernel
theorem dX11_related_4 : decode cX11_related 4 = .ok (.iload_n 1, 1) := by decide +kernel
theorem dX11_related_5 : decode cX11_related 5 = .ok (.invokevirtual 140, 3) := by decide +kernel
theorem dX11_related_8 : decode cX11_related 8 = .ok (.ifCond .eq 10, 3) := by decide +kernel
theorem dX11_related_11 : decode cX11_related 11 = .ok (.iload_n 2, 1) := by decide +kernel
theorem dX11_related_12 : decode cX11_related 12 = .ok (.invokestatic 192, 3) := by decide +kernel
theorem dX11_related_15 : decode cX11_related 15 = .ok (.ifCond .ne 5, 3) := by decide +kernel
theorem dX11_related_18 : decode cX11_related 18 = .ok (.iconst (-1), 1) := by decide +kernel
theorem dX11_related_19 : decode cX11_related 19 = .ok (.ireturn, 1) := by decide +kernel
theorem dX11_related_20 : decode cX11_related 20 = .ok (.aload_n 0, 1) := by decide +kernel
theorem dX11_related_21 : decode cX11_related 21 = .ok (.getfield 50, 3) := by decide +kernel
theorem dX11_related_24 : decode cX11_related 24 = .ok (.aload_n 0, 1) := by decide +kernel
theorem dX11_related_25 : decode cX11_related 25 = .ok (.getfield 19, 3) := by decide +kernel
theorem dX11_related_28 : decode cX11_related 28 = .ok (.iload_n 2, 1) := by decide +kernel
theorem dX11_related_29 : decode cX11_related 29 = .ok (.invokevirtual 195, 3) := by decide +kernel
theorem dX11_related_32 : decode cX11_related 32 = .ok (.aload_n 0, 1) := by decide +kernel
theorem dX11_related_33 : decode cX11_related 33 = .ok (.getfield 50, 3) := by decide +kernel
theorem dX11_related_36 : decode cX11_related 36 = .ok (.aload_n 0, 1) := by decide +kernel
theorem dX11_related_37 : decode cX11_related 37 = .ok (.getfield 19, 3) := by decide +kernel
theorem dX11_related_40 : decode cX11_related 40 = .ok (.getfield 217, 3) := by decide +kernel
theorem dX11_related_43 : decode cX11_related 43 = .ok (.invokevirtual 220, 3) := by decide +kernel
theorem dX11_related_46 : decode cX11_related 46 = .ok (.aload_n 0, 1) := by decide +kernel
theorem dX11_related_47 : decode cX11_related 47 = .ok (.getfield 50, 3) := by decide +kernel
theorem dX11_related_50 : decode cX11_related 50 = .ok (.iload_n 1, 1) := by decide +kernel
theorem dX11_related_51 : decode cX11_related 51 = .ok (.invokevirtual 226, 3) := by decide +kernel
theorem dX11_related_54 : decode cX11_related 54 = .ok (.ireturn, 1) := by decide +kernel
theorem dX11_groups_0 : decode cX11_groups 0 = .ok (.iload_n 1, 1) := by decide +kernel
theorem dX11_groups_1 : decode cX11_groups 1 = .ok (.invokestatic 192, 3) := by decide +kernel
theorem dX11_groups_4 : decode cX11_groups 4 = .ok (.ifCond .ne 5, 3) := by decide +kernel
theorem dX11_groups_7 : decode cX11_groups 7 = .ok (.iconst (-1), 1) := by decide +kernel
theorem dX11_groups_8 : decode cX11_groups 8 = .ok (.ireturn, 1) := by decide +kernel
theorem dX11_groups_9 : decode cX11_groups 9 = .ok (.aload_n 0, 1) := by decide +kernel
theorem dX11_groups_10 : decode cX11_groups 10 = .ok (.getfield 50, 3) := by decide +kernel
theorem dX11_groups_13 : decode cX11_groups 13 = .ok (.aload_n 0, 1) := by decide +kernel
theorem dX11_groups_14 : decode cX11_groups 14 = .ok (.getfield 19, 3) := by decide +kernel
theorem dX11_groups_17 : decode cX11_groups 17 = .ok (.iload_n 1, 1) := by decide +kernel
theorem dX11_groups_18 : decode cX11_groups 18 = .ok (.invokevirtual 195, 3) := by decide +kernel
theorem dX11_groups_21 : decode cX11_groups 21 = .ok (.aload_n 0, 1) := by decide +kernel
theorem dX11_groups_22 : decode cX11_groups 22 = .ok (.getfield 50, 3) := by decide +kernel
theorem dX11_groups_25 : decode cX11_groups 25 = .ok (.aload_n 0, 1) := by decide +kernel
theorem dX11_groups_26 : decode cX11_groups 26 = .ok (.getfield 19, 3) := by decide +kernel
theorem dX11_groups_29 : decode cX11_groups 29 = .ok (.getfield 217, 3) := by decide +kernel
theorem dX11_groups_32 : decode cX11_groups 32 = .ok (.invokevirtual 220, 3) := by decide +kernel
theorem dX11_groups_35 : decode cX11_groups 35 = .ok (.aload_n 0, 1) := by decide +kernel
theorem dX11_groups_36 : decode cX11_groups 36 = .ok (.getfield 50, 3) := by decide +kernel
theorem dX11_groups_39 : decode cX11_groups 39 = .ok (.invokevirtual 229, 3) := by decide +kernel
theorem dX11_groups_42 : decode cX11_groups 42 = .ok (.ireturn, 1) := by decide +kernel
theorem dX11_days_0 : decode cX11_days 0 = .ok (.aload_n 0, 1) := by decide +kernel
theorem dX11_days_1 : decode cX11_days 1 = .ok (.iload_n 1, 1) := by decide +kernel
theorem dX11_days_2 : decode cX11_days 2 = .ok (.iload_n 2, 1) := by decide +kernel
theorem dX11_days_3 : decode cX11_days 3 = .ok (.invokevirtual 188, 3) := by decide +kernel
theorem dX11_days_6 : decode cX11_days 6 = .ok (.ifCond .eq 12, 3) := by decide +kernel
theorem dX11_days_9 : decode cX11_days 9 = .ok (.iload_n 3, 1) := by decide +kernel
theorem dX11_days_10 : decode cX11_days 10 = .ok (.ifCond .lt 8, 3) := by decide +kernel
theorem dX11_days_13 : decode cX11_days 13 = .ok (.iload_n 3, 1) := by decide +kernel
theorem dX11_days_14 : decode cX11_days 14 = .ok (.iconst 2, 1) := by decide +kernel
theorem dX11_days_15 : decode cX11_days 15 = .ok (.if_icmp .le 5, 3) := by decide +kernel
theorem dX11_days_18 : decode cX11_days 18 = .ok (.iconst (-1), 1) := by decide +kernel
theorem dX11_days_19 : decode cX11_days 19 = .ok (.ireturn, 1) := by decide +kernel
theorem dX11_days_20 : decode cX11_days 20 = .ok (.aload_n 0, 1) := by decide +kernel
theorem dX11_days_21 : decode cX11_days 21 = .ok (.invokevirtual 233, 3) := by decide +kernel
theorem dX11_days_24 : decode cX11_days 24 = .ok (.iload_n 3, 1) := by decide +kernel
theorem dX11_days_25 : decode cX11_days 25 = .ok (.ifCond .ne 13, 3) := by decide +kernel
theorem dX11_days_28 : decode cX11_days 28 = .ok (.aload_n 0, 1) := by decide +kernel
theorem dX11_days_29 : decode cX11_days 29 = .ok (.getfield 57, 3) := by decide +kernel
theorem dX11_days_32 : decode cX11_days 32 = .ok (.iload_n 1, 1) := by decide +kernel
theorem dX11_days_33 : decode cX11_days 33 = .ok (.iload_n 2, 1) := by decide +kernel
theorem dX11_days_34 : decode cX11_days 34 = .ok (.invokevirtual 236, 3) := by decide +kernel
theorem dX11_days_37 : decode cX11_days 37 = .ok (.ireturn, 1) := by decide +kernel
theorem dX11_days_38 : decode cX11_days 38 = .ok (.iload_n 3, 1) := by decide +kernel
theorem dX11_days_39 : decode cX11_days 39 = .ok (.iconst 1, 1) := by decide +kernel
theorem dX11_days_40 : decode cX11_days 40 = .ok (.if_icmp .ne 15, 3) := by decide +kernel
theorem dX11_days_43 : decode cX11_days 43 = .ok (.aload_n 0, 1) := by decide +kernel
theorem dX11_days_44 : decode cX11_days 44 = .ok (.getfield 57, 3) := by decide +kernel
theorem dX11_days_47 : decode cX11_days 47 = .ok (.iload_n 1, 1) := by decide +kernel
theorem dX11_days_48 : decode cX11_days 48 = .ok (.iload_n 2, 1) := by decide +kernel
theorem dX11_days_49 : decode cX11_days 49 = .ok (.invokevirtual 240, 3) := by decide +kernel
theorem dX11_days_52 : decode cX11_days 52 = .ok (.goto 16, 3) := by decide +kernel
theorem dX11_days_55 : decode cX11_days 55 = .ok (.aload_n 0, 1) := by decide +kernel
theorem dX11_days_56 : decode cX11_days 56 = .ok (.getfield 57, 3) := by decide +kernel
theorem dX11_days_59 : decode cX11_days 59 = .ok (.iload_n 1, 1) := by decide +kernel
theorem dX11_days_60 : decode cX11_days 60 = .ok (.iload_n 2, 1) := by decide +kernel
theorem dX11_days_61 : decode cX11_days 61 = .ok (.iconst 0, 1) := by decide +kernel
theorem dX11_days_62 : decode cX11_days 62 = .ok (.sipush 999, 3) := by decide +kernel
theorem dX11_days_65 : decode cX11_days 65 = .ok (.invokevirtual 243, 3) := by decide +kernel
theorem dX11_days_68 : decode cX11_days 68 = .ok (.ireturn, 1) := by decide +kernel
theorem dX11_steps_0 : decode cX11_steps 0 = .ok (.aload_n 0, 1) := by decide +kernel
theorem dX11_steps_1 : decode cX11_steps 1 = .ok (.iload_n 1, 1) := by decide +kernel
theorem dX11_steps_2 : decode cX11_steps 2 = .ok (.iload_n 2, 1) := by decide +kernel
theorem dX11_steps_3 : decode cX11_steps 3 = .ok (.invokevirtual 202, 3) := by decide +kernel
theorem dX11_steps_6 : decode cX11_steps 6 = .ok (.ifCond .eq 10, 3) := by decide +kernel
theorem dX11_steps_9 : decode cX11_steps 9 = .ok (.iload_n 3, 1) := by decide +kernel
theorem dX11_steps_10 : decode cX11_steps 10 = .ok (.invokestatic 192, 3) := by decide +kernel
theorem dX11_steps_13 : decode cX11_steps 13 = .ok (.ifCond .ne 5, 3) := by decide +kernel
theorem dX11_steps_16 : decode cX11_steps 16 = .ok (.iconst (-1), 1) := by decide +kernel
theorem dX11_steps_17 : decode cX11_steps 17 = .ok (.ireturn, 1) := by decide +kernel
theorem dX11_steps_18 : decode cX11_steps 18 = .ok (.aload_n 0, 1) := by decide +kernel
theorem dX11_steps_19 : decode cX11_steps 19 = .ok (.getfield 50, 3) := by decide +kernel
theorem dX11_steps_22 : decode cX11_steps 22 = .ok (.aload_n 0, 1) := by decide +kernel
theorem dX11_steps_23 : decode cX11_steps 23 = .ok (.getfield 19, 3) := by decide +kernel
theorem dX11_steps_26 : decode cX11_steps 26 = .ok (.iload_n 3, 1) := by decide +kernel
theorem dX11_steps_27 : decode cX11_steps 27 = .ok (.invokevirtual 195, 3) := by decide +kernel
theorem dX11_steps_30 : decode cX11_steps 30 = .ok (.aload_n 0, 1) := by decide +kernel
theorem dX11_steps_31 : decode cX11_steps 31 = .ok (.getfield 50, 3) := by decide +kernel
theorem dX11_steps_34 : decode cX11_steps 34 = .ok (.iload_n 1, 1) := by decide +kernel
theorem dX11_steps_35 : decode cX11_steps 35 = .ok (.iload_n 2, 1) := by decide +kernel
theorem dX11_steps_36 : decode cX11_steps 36 = .ok (.invokevirtual 247, 3) := by decide +kernel
theorem dX11_steps_39 : decode cX11_steps 39 = .ok (.ireturn, 1) := by decide +kernel
theorem dX11_own_0 : decode cX11_own 0 = .ok (.aload_n 0, 1) := by decide +kernel
theorem dX11_own_1 : decode cX11_own 1 = .ok (.iload_n 1, 1) := by decide +kernel
theorem dX11_own_2 : decode cX11_own 2 = .ok (.iload_n 2, 1) := by decide +kernel
theorem dX11_own_3 : decode cX11_own 3 = .ok (.invokevirtual 188, 3) := by decide +kernel
theorem dX11_own_6 : decode cX11_own 6 = .ok (.ifCond .eq 26, 3) := by decide +kernel
theorem dX11_own_9 : decode cX11_own 9 = .ok (.iload_n 1, 1) := by decide +kernel
theorem dX11_own_10 : decode cX11_own 10 = .ok (.iload_n 2, 1) := by decide +kernel
theorem dX11_own_11 : decode cX11_own 11 = .ok (.if_icmp .gt 21, 3) := by decide +kernel
theorem dX11_own_14 : decode cX11_own 14 = .ok (.iload 4, 2) := by decide +kernel
theorem dX11_own_16 : decode cX11_own 16 = .ok (.invokestatic 192, 3) := by decide +kernel
theorem dX11_own_19 : decode cX11_own 19 = .ok (.ifCond .eq 13, 3) := by decide +kernel
theorem dX11_own_22 : decode cX11_own 22 = .ok (.iload_n 3, 1) := by decide +kernel
theorem dX11_own_23 : decode cX11_own 23 = .ok (.ifCond .lt 9, 3) := by decide +kernel
theorem dX11_own_26 : decode cX11_own 26 = .ok (.iload_n 3, 1) := by decide +kernel
theorem dX11_own_27 : decode cX11_own 27 = .ok (.bipush 100, 2) := by decide +kernel
theorem dX11_own_29 : decode cX11_own 29 = .ok (.if_icmp .le 5, 3) := by decide +kernel
theorem dX11_own_32 : decode cX11_own 32 = .ok (.iconst (-1), 1) := by decide +kernel
theorem dX11_own_33 : decode cX11_own 33 = .ok (.ireturn, 1) := by decide +kernel
theorem dX11_own_34 : decode cX11_own 34 = .ok (.aload_n 0, 1) := by decide +kernel
theorem dX11_own_35 : decode cX11_own 35 = .ok (.getfield 19, 3) := by decide +kernel
theorem dX11_own_38 : decode cX11_own 38 = .ok (.getfield 250, 3) := by decide +kernel
theorem dX11_own_41 : decode cX11_own 41 = .ok (.getfield 253, 3) := by decide +kernel
theorem dX11_own_44 : decode cX11_own 44 = .ok (.bipush 24, 2) := by decide +kernel
theorem dX11_own_46 : decode cX11_own 46 = .ok (.if_icmp .lt 6, 3) := by decide +kernel
theorem dX11_own_49 : decode cX11_own 49 = .ok (.bipush (-2), 2) := by decide +kernel
theorem dX11_own_51 : decode cX11_own 51 = .ok (.ireturn, 1) := by decide +kernel
theorem dX11_own_52 : decode cX11_own 52 = .ok (.aload_n 0, 1) := by decide +kernel
theorem dX11_own_53 : decode cX11_own 53 = .ok (.getfield 19, 3) := by decide +kernel
theorem dX11_own_56 : decode cX11_own 56 = .ok (.getfield 250, 3) := by decide +kernel
theorem dX11_own_59 : decode cX11_own 59 = .ok (.iload_n 1, 1) := by decide +kernel
theorem dX11_own_60 : decode cX11_own 60 = .ok (.iload_n 2, 1) := by decide +kernel
theorem dX11_own_61 : decode cX11_own 61 = .ok (.iload_n 3, 1) := by decide +kernel
theorem dX11_own_62 : decode cX11_own 62 = .ok (.iload 4, 2) := by decide +kernel
theorem dX11_own_64 : decode cX11_own 64 = .ok (.invokevirtual 258, 3) := by decide +kernel
theorem dX11_own_67 : decode cX11_own 67 = .ok (.aload_n 0, 1) := by decide +kernel
theorem dX11_own_68 : decode cX11_own 68 = .ok (.invokevirtual 124, 3) := by decide +kernel
theorem dX11_own_71 : decode cX11_own 71 = .ok (.aload_n 0, 1) := by decide +kernel
theorem dX11_own_72 : decode cX11_own 72 = .ok (.invokevirtual 233, 3) := by decide +kernel
theorem dX11_own_75 : decode cX11_own 75 = .ok (.aload_n 0, 1) := by decide +kernel
theorem dX11_own_76 : decode cX11_own 76 = .ok (.invokevirtual 262, 3) := by decide +kernel
theorem dX11_own_79 : decode cX11_own 79 = .ok (.ifCond .eq 20, 3) := by decide +kernel
theorem dX11_own_82 : decode cX11_own 82 = .ok (.aload_n 0, 1) := by decide +kernel
theorem dX11_own_83 : decode cX11_own 83 = .ok (.getfield 19, 3) := by decide +kernel
theorem dX11_own_86 : decode cX11_own 86 = .ok (.getfield 250, 3) := by decide +kernel
theorem dX11_own_89 : decode cX11_own 89 = .ok (.invokevirtual 266, 3) := by decide +kernel
theorem dX11_own_92 : decode cX11_own 92 = .ok (.aload_n 0, 1) := by decide +kernel
theorem dX11_own_93 : decode cX11_own 93 = .ok (.invokevirtual 124, 3) := by decide +kernel
theorem dX11_own_96 : decode cX11_own 96 = .ok (.bipush (-3), 2) := by decide +kernel
theorem dX11_own_98 : decode cX11_own 98 = .ok (.ireturn, 1) := by decide +kernel
theorem dX11_own_99 : decode cX11_own 99 = .ok (.aload_n 0, 1) := by decide +kernel
theorem dX11_own_100 : decode cX11_own 100 = .ok (.getfield 36, 3) := by decide +kernel
theorem dX11_own_103 : decode cX11_own 103 = .ok (.iconst 3, 1) := by decide +kernel
theorem dX11_own_104 : decode cX11_own 104 = .ok (.iconst 0, 1) := by decide +kernel
theorem dX11_own_105 : decode cX11_own 105 = .ok (.iconst 0, 1) := by decide +kernel
theorem dX11_own_106 : decode cX11_own 106 = .ok (.iconst 0, 1) := by decide +kernel
theorem dX11_own_107 : decode cX11_own 107 = .ok (.iconst 0, 1) := by decide +kernel
theorem dX11_own_108 : decode cX11_own 108 = .ok (.invokevirtual 269, 3) := by decide +kernel
theorem dX11_own_111 : decode cX11_own 111 = .ok (.aload_n 0, 1) := by decide +kernel
theorem dX11_own_112 : decode cX11_own 112 = .ok (.getfield 19, 3) := by decide +kernel
theorem dX11_own_115 : decode cX11_own 115 = .ok (.getfield 250, 3) := by decide +kernel
theorem dX11_own_118 : decode cX11_own 118 = .ok (.getfield 253, 3) := by decide +kernel
theorem dX11_own_121 : decode cX11_own 121 = .ok (.ireturn, 1) := by decide +kernel
theorem dX11_claimsExceedBounds_0 : decode cX11_claimsExceedBounds 0 = .ok (.iconst 0, 1) := by decide +kernel
theorem dX11_claimsExceedBounds_1 : decode cX11_claimsExceedBounds 1 = .ok (.istore_n 1, 1) := by decide +kernel
theorem dX11_claimsExceedBounds_2 : decode cX11_claimsExceedBounds 2 = .ok (.iload_n 1, 1) := by decide +kernel
theorem dX11_claimsExceedBounds_3 : decode cX11_claimsExceedBounds 3 = .ok (.aload_n 0, 1) := by decide +kernel
theorem dX11_claimsExceedBounds_4 : decode cX11_claimsExceedBounds 4 = .ok (.getfield 29, 3) := by decide +kernel
theorem dX11_claimsExceedBounds_7 : decode cX11_claimsExceedBounds 7 = .ok (.getfield 273, 3) := by decide +kernel
theorem dX11_claimsExceedBounds_10 : decode cX11_claimsExceedBounds 10 = .ok (.if_icmp .ge 57, 3) := by decide +kernel
theorem dX11_claimsExceedBounds_13 : decode cX11_claimsExceedBounds 13 = .ok (.aload_n 0, 1) := by decide +kernel
theorem dX11_claimsExceedBounds_14 : decode cX11_claimsExceedBounds 14 = .ok (.getfield 29, 3) := by decide +kernel
theorem dX11_claimsExceedBounds_17 : decode cX11_claimsExceedBounds 17 = .ok (.getfield 274, 3) := by decide +kernel
theorem dX11_claimsExceedBounds_20 : decode cX11_claimsExceedBounds 20 = .ok (.iload_n 1, 1) := by decide +kernel
theorem dX11_claimsExceedBounds_21 : decode cX11_claimsExceedBounds 21 = .ok (.iaload, 1) := by decide +kernel
theorem dX11_claimsExceedBounds_22 : decode cX11_claimsExceedBounds 22 = .ok (.istore_n 2, 1) := by decide +kernel
theorem dX11_claimsExceedBounds_23 : decode cX11_claimsExceedBounds 23 = .ok (.aload_n 0, 1) := by decide +kernel
theorem dX11_claimsExceedBounds_24 : decode cX11_claimsExceedBounds 24 = .ok (.getfield 29, 3) := by decide +kernel
theorem dX11_claimsExceedBounds_27 : decode cX11_claimsExceedBounds 27 = .ok (.getfield 277, 3) := by decide +kernel
theorem dX11_claimsExceedBounds_30 : decode cX11_claimsExceedBounds 30 = .ok (.iload_n 1, 1) := by decide +kernel
theorem dX11_claimsExceedBounds_31 : decode cX11_claimsExceedBounds 31 = .ok (.iaload, 1) := by decide +kernel
theorem dX11_claimsExceedBounds_32 : decode cX11_claimsExceedBounds 32 = .ok (.istore_n 3, 1) := by decide +kernel
theorem dX11_claimsExceedBounds_33 : decode cX11_claimsExceedBounds 33 = .ok (.aload_n 0, 1) := by decide +kernel
theorem dX11_claimsExceedBounds_34 : decode cX11_claimsExceedBounds 34 = .ok (.getfield 29, 3) := by decide +kernel
theorem dX11_claimsExceedBounds_37 : decode cX11_claimsExceedBounds 37 = .ok (.iload_n 2, 1) := by decide +kernel
theorem dX11_claimsExceedBounds_38 : decode cX11_claimsExceedBounds 38 = .ok (.iload_n 3, 1) := by decide +kernel
theorem dX11_claimsExceedBounds_39 : decode cX11_claimsExceedBounds 39 = .ok (.invokevirtual 280, 3) := by decide +kernel
theorem dX11_claimsExceedBounds_42 : decode cX11_claimsExceedBounds 42 = .ok (.aload_n 0, 1) := by decide +kernel
theorem dX11_claimsExceedBounds_43 : decode cX11_claimsExceedBounds 43 = .ok (.getfield 64, 3) := by decide +kernel
theorem dX11_claimsExceedBounds_46 : decode cX11_claimsExceedBounds 46 = .ok (.getfield 283, 3) := by decide +kernel
theorem dX11_claimsExceedBounds_49 : decode cX11_claimsExceedBounds 49 = .ok (.iload_n 2, 1) := by decide +kernel
theorem dX11_claimsExceedBounds_50 : decode cX11_claimsExceedBounds 50 = .ok (.bipush 12, 2) := by decide +kernel
theorem dX11_claimsExceedBounds_52 : decode cX11_claimsExceedBounds 52 = .ok (.imul, 1) := by decide +kernel
theorem dX11_claimsExceedBounds_53 : decode cX11_claimsExceedBounds 53 = .ok (.iload_n 3, 1) := by decide +kernel
theorem dX11_claimsExceedBounds_54 : decode cX11_claimsExceedBounds 54 = .ok (.iadd, 1) := by decide +kernel
theorem dX11_claimsExceedBounds_55 : decode cX11_claimsExceedBounds 55 = .ok (.iaload, 1) := by decide +kernel
theorem dX11_claimsExceedBounds_56 : decode cX11_claimsExceedBounds 56 = .ok (.if_icmp .le 5, 3) := by decide +kernel
theorem dX11_claimsExceedBounds_59 : decode cX11_claimsExceedBounds 59 = .ok (.iconst 1, 1) := by decide +kernel
theorem dX11_claimsExceedBounds_60 : decode cX11_claimsExceedBounds 60 = .ok (.ireturn, 1) := by decide +kernel
theorem dX11_claimsExceedBounds_61 : decode cX11_claimsExceedBounds 61 = .ok (.iinc 1 1, 3) := by decide +kernel
theorem dX11_claimsExceedBounds_64 : decode cX11_claimsExceedBounds 64 = .ok (.goto (-62), 3) := by decide +kernel
theorem dX11_claimsExceedBounds_67 : decode cX11_claimsExceedBounds 67 = .ok (.iconst 0, 1) := by decide +kernel
theorem dX11_claimsExceedBounds_68 : decode cX11_claimsExceedBounds 68 = .ok (.ireturn, 1) := by decide +kernel
theorem dX11_shared_0 : decode cX11_shared 0 = .ok (.aload_n 0, 1) := by decide +kernel
theorem dX11_shared_1 : decode cX11_shared 1 = .ok (.getfield 19, 3) := by decide +kernel
theorem dX11_shared_4 : decode cX11_shared 4 = .ok (.iload_n 1, 1) := by decide +kernel
theorem dX11_shared_5 : decode cX11_shared 5 = .ok (.invokevirtual 165, 3) := by decide +kernel
theorem dX11_shared_8 : decode cX11_shared 8 = .ok (.ifCond .eq 35, 3) := by decide +kernel
theorem dX11_shared_11 : decode cX11_shared 11 = .ok (.aload_n 0, 1) := by decide +kernel
theorem dX11_shared_12 : decode cX11_shared 12 = .ok (.getfield 19, 3) := by decide +kernel
theorem dX11_shared_15 : decode cX11_shared 15 = .ok (.iload_n 2, 1) := by decide +kernel
theorem dX11_shared_16 : decode cX11_shared 16 = .ok (.invokevirtual 165, 3) := by decide +kernel
theorem dX11_shared_19 : decode cX11_shared 19 = .ok (.ifCond .eq 24, 3) := by decide +kernel
theorem dX11_shared_22 : decode cX11_shared 22 = .ok (.aload_n 0, 1) := by decide +kernel
theorem dX11_shared_23 : decode cX11_shared 23 = .ok (.getfield 19, 3) := by decide +kernel
theorem dX11_shared_26 : decode cX11_shared 26 = .ok (.getfield 169, 3) := by decide +kernel
theorem dX11_shared_29 : decode cX11_shared 29 = .ok (.iload_n 1, 1) := by decide +kernel
theorem dX11_shared_30 : decode cX11_shared 30 = .ok (.iaload, 1) := by decide +kernel
theorem dX11_shared_31 : decode cX11_shared 31 = .ok (.aload_n 0, 1) := by decide +kernel
theorem dX11_shared_32 : decode cX11_shared 32 = .ok (.getfield 19, 3) := by decide +kernel
theorem dX11_shared_35 : decode cX11_shared 35 = .ok (.getfield 169, 3) := by decide +kernel
theorem dX11_shared_38 : decode cX11_shared 38 = .ok (.iload_n 2, 1) := by decide +kernel
theorem dX11_shared_39 : decode cX11_shared 39 = .ok (.iaload, 1) := by decide +kernel
theorem dX11_shared_40 : decode cX11_shared 40 = .ok (.if_icmp .ne 5, 3) := by decide +kernel
theorem dX11_shared_43 : decode cX11_shared 43 = .ok (.iconst (-1), 1) := by decide +kernel
theorem dX11_shared_44 : decode cX11_shared 44 = .ok (.ireturn, 1) := by decide +kernel
theorem dX11_shared_45 : decode cX11_shared 45 = .ok (.aload_n 0, 1) := by decide +kernel
theorem dX11_shared_46 : decode cX11_shared 46 = .ok (.invokevirtual 233, 3) := by decide +kernel
theorem dX11_shared_49 : decode cX11_shared 49 = .ok (.aload_n 0, 1) := by decide +kernel
theorem dX11_shared_50 : decode cX11_shared 50 = .ok (.getfield 19, 3) := by decide +kernel
theorem dX11_shared_53 : decode cX11_shared 53 = .ok (.getfield 172, 3) := by decide +kernel
theorem dX11_shared_56 : decode cX11_shared 56 = .ok (.iload_n 1, 1) := by decide +kernel
theorem dX11_shared_57 : decode cX11_shared 57 = .ok (.iaload, 1) := by decide +kernel
theorem dX11_shared_58 : decode cX11_shared 58 = .ok (.aload_n 0, 1) := by decide +kernel
theorem dX11_shared_59 : decode cX11_shared 59 = .ok (.getfield 19, 3) := by decide +kernel
theorem dX11_shared_62 : decode cX11_shared 62 = .ok (.getfield 172, 3) := by decide +kernel
theorem dX11_shared_65 : decode cX11_shared 65 = .ok (.iload_n 2, 1) := by decide +kernel
theorem dX11_shared_66 : decode cX11_shared 66 = .ok (.iaload, 1) := by decide +kernel
theorem dX11_shared_67 : decode cX11_shared 67 = .ok (.invokestatic 286, 3) := by decide +kernel
theorem dX11_shared_70 : decode cX11_shared 70 = .ok (.istore_n 3, 1) := by decide +kernel
theorem dX11_shared_71 : decode cX11_shared 71 = .ok (.aload_n 0, 1) := by decide +kernel
theorem dX11_shared_72 : decode cX11_shared 72 = .ok (.getfield 19, 3) := by decide +kernel
theorem dX11_shared_75 : decode cX11_shared 75 = .ok (.getfield 175, 3) := by decide +kernel
theorem dX11_shared_78 : decode cX11_shared 78 = .ok (.iload_n 1, 1) := by decide +kernel
theorem dX11_shared_79 : decode cX11_shared 79 = .ok (.iaload, 1) := by decide +kernel
theorem dX11_shared_80 : decode cX11_shared 80 = .ok (.aload_n 0, 1) := by decide +kernel
theorem dX11_shared_81 : decode cX11_shared 81 = .ok (.getfield 19, 3) := by decide +kernel
theorem dX11_shared_84 : decode cX11_shared 84 = .ok (.getfield 175, 3) := by decide +kernel
theorem dX11_shared_87 : decode cX11_shared 87 = .ok (.iload_n 2, 1) := by decide +kernel
theorem dX11_shared_88 : decode cX11_shared 88 = .ok (.iaload, 1) := by decide +kernel
theorem dX11_shared_89 : decode cX11_shared 89 = .ok (.invokestatic 291, 3) := by decide +kernel
theorem dX11_shared_92 : decode cX11_shared 92 = .ok (.istore 4, 2) := by decide +kernel
theorem dX11_shared_94 : decode cX11_shared 94 = .ok (.aload_n 0, 1) := by decide +kernel
theorem dX11_shared_95 : decode cX11_shared 95 = .ok (.getfield 57, 3) := by decide +kernel
theorem dX11_shared_98 : decode cX11_shared 98 = .ok (.aload_n 0, 1) := by decide +kernel
theorem dX11_shared_99 : decode cX11_shared 99 = .ok (.getfield 19, 3) := by decide +kernel
theorem dX11_shared_102 : decode cX11_shared 102 = .ok (.getfield 169, 3) := by decide +kernel
theorem dX11_shared_105 : decode cX11_shared 105 = .ok (.iload_n 1, 1) := by decide +kernel
theorem dX11_shared_106 : decode cX11_shared 106 = .ok (.iaload, 1) := by decide +kernel
theorem dX11_shared_107 : decode cX11_shared 107 = .ok (.aload_n 0, 1) := by decide +kernel
theorem dX11_shared_108 : decode cX11_shared 108 = .ok (.getfield 19, 3) := by decide +kernel
theorem dX11_shared_111 : decode cX11_shared 111 = .ok (.getfield 169, 3) := by decide +kernel
theorem dX11_shared_114 : decode cX11_shared 114 = .ok (.iload_n 2, 1) := by decide +kernel
theorem dX11_shared_115 : decode cX11_shared 115 = .ok (.iaload, 1) := by decide +kernel
theorem dX11_shared_116 : decode cX11_shared 116 = .ok (.iload_n 3, 1) := by decide +kernel
theorem dX11_shared_117 : decode cX11_shared 117 = .ok (.iload 4, 2) := by decide +kernel
theorem dX11_shared_119 : decode cX11_shared 119 = .ok (.invokevirtual 243, 3) := by decide +kernel
theorem dX11_shared_122 : decode cX11_shared 122 = .ok (.ireturn, 1) := by decide +kernel
theorem dX11_bound_0 : decode cX11_bound 0 = .ok (.aload_n 0, 1) := by decide +kernel
theorem dX11_bound_1 : decode cX11_bound 1 = .ok (.iload_n 1, 1) := by decide +kernel
theorem dX11_bound_2 : decode cX11_bound 2 = .ok (.iload_n 2, 1) := by decide +kernel
theorem dX11_bound_3 : decode cX11_bound 3 = .ok (.invokevirtual 294, 3) := by decide +kernel
theorem dX11_bound_6 : decode cX11_bound 6 = .ok (.ifCond .eq 20, 3) := by decide +kernel
theorem dX11_bound_9 : decode cX11_bound 9 = .ok (.aload_n 0, 1) := by decide +kernel
theorem dX11_bound_10 : decode cX11_bound 10 = .ok (.getfield 64, 3) := by decide +kernel
theorem dX11_bound_13 : decode cX11_bound 13 = .ok (.getfield 283, 3) := by decide +kernel
theorem dX11_bound_16 : decode cX11_bound 16 = .ok (.iload_n 1, 1) := by decide +kernel
theorem dX11_bound_17 : decode cX11_bound 17 = .ok (.bipush 12, 2) := by decide +kernel
theorem dX11_bound_19 : decode cX11_bound 19 = .ok (.imul, 1) := by decide +kernel
theorem dX11_bound_20 : decode cX11_bound 20 = .ok (.iload_n 2, 1) := by decide +kernel
theorem dX11_bound_21 : decode cX11_bound 21 = .ok (.iadd, 1) := by decide +kernel
theorem dX11_bound_22 : decode cX11_bound 22 = .ok (.iaload, 1) := by decide +kernel
theorem dX11_bound_23 : decode cX11_bound 23 = .ok (.goto 4, 3) := by decide +kernel
theorem dX11_bound_26 : decode cX11_bound 26 = .ok (.iconst (-1), 1) := by decide +kernel
theorem dX11_bound_27 : decode cX11_bound 27 = .ok (.ireturn, 1) := by decide +kernel
theorem dX11_room_0 : decode cX11_room 0 = .ok (.aload_n 0, 1) := by decide +kernel
theorem dX11_room_1 : decode cX11_room 1 = .ok (.iload_n 1, 1) := by decide +kernel
theorem dX11_room_2 : decode cX11_room 2 = .ok (.iload_n 2, 1) := by decide +kernel
theorem dX11_room_3 : decode cX11_room 3 = .ok (.invokevirtual 294, 3) := by decide +kernel
theorem dX11_room_6 : decode cX11_room 6 = .ok (.ifCond .eq 30, 3) := by decide +kernel
theorem dX11_room_9 : decode cX11_room 9 = .ok (.aload_n 0, 1) := by decide +kernel
theorem dX11_room_10 : decode cX11_room 10 = .ok (.getfield 64, 3) := by decide +kernel
theorem dX11_room_13 : decode cX11_room 13 = .ok (.getfield 283, 3) := by decide +kernel
theorem dX11_room_16 : decode cX11_room 16 = .ok (.iload_n 1, 1) := by decide +kernel
theorem dX11_room_17 : decode cX11_room 17 = .ok (.bipush 12, 2) := by decide +kernel
theorem dX11_room_19 : decode cX11_room 19 = .ok (.imul, 1) := by decide +kernel
theorem dX11_room_20 : decode cX11_room 20 = .ok (.iload_n 2, 1) := by decide +kernel
theorem dX11_room_21 : decode cX11_room 21 = .ok (.iadd, 1) := by decide +kernel
theorem dX11_room_22 : decode cX11_room 22 = .ok (.iaload, 1) := by decide +kernel
theorem dX11_room_23 : decode cX11_room 23 = .ok (.aload_n 0, 1) := by decide +kernel
theorem dX11_room_24 : decode cX11_room 24 = .ok (.getfield 29, 3) := by decide +kernel
theorem dX11_room_27 : decode cX11_room 27 = .ok (.iload_n 1, 1) := by decide +kernel
theorem dX11_room_28 : decode cX11_room 28 = .ok (.iload_n 2, 1) := by decide +kernel
theorem dX11_room_29 : decode cX11_room 29 = .ok (.invokevirtual 280, 3) := by decide +kernel
theorem dX11_room_32 : decode cX11_room 32 = .ok (.isub, 1) := by decide +kernel
theorem dX11_room_33 : decode cX11_room 33 = .ok (.goto 4, 3) := by decide +kernel
theorem dX11_room_36 : decode cX11_room 36 = .ok (.iconst (-1), 1) := by decide +kernel
theorem dX11_room_37 : decode cX11_room 37 = .ok (.ireturn, 1) := by decide +kernel
theorem dX11_price_0 : decode cX11_price 0 = .ok (.aload_n 0, 1) := by decide +kernel
theorem dX11_price_1 : decode cX11_price 1 = .ok (.iload_n 1, 1) := by decide +kernel
theorem dX11_price_2 : decode cX11_price 2 = .ok (.iload_n 2, 1) := by decide +kernel
theorem dX11_price_3 : decode cX11_price 3 = .ok (.invokevirtual 294, 3) := by decide +kernel
theorem dX11_price_6 : decode cX11_price 6 = .ok (.ifCond .eq 20, 3) := by decide +kernel
theorem dX11_price_9 : decode cX11_price 9 = .ok (.aload_n 0, 1) := by decide +kernel
theorem dX11_price_10 : decode cX11_price 10 = .ok (.getfield 64, 3) := by decide +kernel
theorem dX11_price_13 : decode cX11_price 13 = .ok (.getfield 297, 3) := by decide +kernel
theorem dX11_price_16 : decode cX11_price 16 = .ok (.iload_n 1, 1) := by decide +kernel
theorem dX11_price_17 : decode cX11_price 17 = .ok (.bipush 12, 2) := by decide +kernel
theorem dX11_price_19 : decode cX11_price 19 = .ok (.imul, 1) := by decide +kernel
theorem dX11_price_20 : decode cX11_price 20 = .ok (.iload_n 2, 1) := by decide +kernel
theorem dX11_price_21 : decode cX11_price 21 = .ok (.iadd, 1) := by decide +kernel
theorem dX11_price_22 : decode cX11_price 22 = .ok (.iaload, 1) := by decide +kernel
theorem dX11_price_23 : decode cX11_price 23 = .ok (.goto 4, 3) := by decide +kernel
theorem dX11_price_26 : decode cX11_price 26 = .ok (.iconst (-1), 1) := by decide +kernel
theorem dX11_price_27 : decode cX11_price 27 = .ok (.ireturn, 1) := by decide +kernel
theorem dX11_claim_0 : decode cX11_claim 0 = .ok (.aload_n 0, 1) := by decide +kernel
theorem dX11_claim_1 : decode cX11_claim 1 = .ok (.aload_n 0, 1) := by decide +kernel
theorem dX11_claim_2 : decode cX11_claim 2 = .ok (.getfield 29, 3) := by decide +kernel
theorem dX11_claim_5 : decode cX11_claim 5 = .ok (.iload_n 1, 1) := by decide +kernel
theorem dX11_claim_6 : decode cX11_claim 6 = .ok (.iload_n 2, 1) := by decide +kernel
theorem dX11_claim_7 : decode cX11_claim 7 = .ok (.iload_n 3, 1) := by decide +kernel
theorem dX11_claim_8 : decode cX11_claim 8 = .ok (.invokevirtual 300, 3) := by decide +kernel
theorem dX11_claim_11 : decode cX11_claim 11 = .ok (.istore 4, 2) := by decide +kernel
theorem dX11_claim_13 : decode cX11_claim 13 = .ok (.iload 4, 2) := by decide +kernel
theorem dX11_claim_15 : decode cX11_claim 15 = .ok (.ifCond .lt 20, 3) := by decide +kernel
theorem dX11_claim_18 : decode cX11_claim 18 = .ok (.aload_n 0, 1) := by decide +kernel
theorem dX11_claim_19 : decode cX11_claim 19 = .ok (.getfield 36, 3) := by decide +kernel
theorem dX11_claim_22 : decode cX11_claim 22 = .ok (.iconst 0, 1) := by decide +kernel
theorem dX11_claim_23 : decode cX11_claim 23 = .ok (.iconst 1, 1) := by decide +kernel
theorem dX11_claim_24 : decode cX11_claim 24 = .ok (.iconst 0, 1) := by decide +kernel
theorem dX11_claim_25 : decode cX11_claim 25 = .ok (.iconst 0, 1) := by decide +kernel
theorem dX11_claim_26 : decode cX11_claim 26 = .ok (.iconst 0, 1) := by decide +kernel
theorem dX11_claim_27 : decode cX11_claim 27 = .ok (.invokevirtual 269, 3) := by decide +kernel
theorem dX11_claim_30 : decode cX11_claim 30 = .ok (.aload_n 0, 1) := by decide +kernel
theorem dX11_claim_31 : decode cX11_claim 31 = .ok (.iconst 0, 1) := by decide +kernel
theorem dX11_claim_32 : decode cX11_claim 32 = .ok (.putfield 102, 3) := by decide +kernel
theorem dX11_claim_35 : decode cX11_claim 35 = .ok (.iload 4, 2) := by decide +kernel
theorem dX11_claim_37 : decode cX11_claim 37 = .ok (.ireturn, 1) := by decide +kernel
theorem dX11_enter_0 : decode cX11_enter 0 = .ok (.iload 4, 2) := by decide +kernel
theorem dX11_enter_2 : decode cX11_enter 2 = .ok (.iconst 1, 1) := by decide +kernel
theorem dX11_enter_3 : decode cX11_enter 3 = .ok (.if_icmp .lt 20, 3) := by decide +kernel
theorem dX11_enter_6 : decode cX11_enter 6 = .ok (.iload 4, 2) := by decide +kernel
theorem dX11_enter_8 : decode cX11_enter 8 = .ok (.ldc_w 304, 3) := by decide +kernel
theorem dX11_enter_11 : decode cX11_enter 11 = .ok (.if_icmp .gt 12, 3) := by decide +kernel
theorem dX11_enter_14 : decode cX11_enter 14 = .ok (.aload_n 0, 1) := by decide +kernel
theorem dX11_enter_15 : decode cX11_enter 15 = .ok (.iload_n 2, 1) := by decide +kernel
theorem dX11_enter_16 : decode cX11_enter 16 = .ok (.iload_n 3, 1) := by decide +kernel
theorem dX11_enter_17 : decode cX11_enter 17 = .ok (.invokevirtual 294, 3) := by decide +kernel
theorem dX11_enter_20 : decode cX11_enter 20 = .ok (.ifCond .ne 5, 3) := by decide +kernel
theorem dX11_enter_23 : decode cX11_enter 23 = .ok (.iconst (-1), 1) := by decide +kernel
theorem dX11_enter_24 : decode cX11_enter 24 = .ok (.ireturn, 1) := by decide +kernel
theorem dX11_enter_25 : decode cX11_enter 25 = .ok (.aload_n 1, 1) := by decide +kernel
theorem dX11_enter_26 : decode cX11_enter 26 = .ok (.getfield 273, 3) := by decide +kernel
theorem dX11_enter_29 : decode cX11_enter 29 = .ok (.bipush 30, 2) := by decide +kernel
theorem dX11_enter_31 : decode cX11_enter 31 = .ok (.if_icmp .lt 6, 3) := by decide +kernel
theorem dX11_enter_34 : decode cX11_enter 34 = .ok (.bipush (-2), 2) := by decide +kernel
theorem dX11_enter_36 : decode cX11_enter 36 = .ok (.ireturn, 1) := by decide +kernel
theorem dX11_enter_37 : decode cX11_enter 37 = .ok (.aload_n 0, 1) := by decide +kernel
theorem dX11_enter_38 : decode cX11_enter 38 = .ok (.getfield 64, 3) := by decide +kernel
theorem dX11_enter_41 : decode cX11_enter 41 = .ok (.getfield 283, 3) := by decide +kernel
theorem dX11_enter_44 : decode cX11_enter 44 = .ok (.iload_n 2, 1) := by decide +kernel
theorem dX11_enter_45 : decode cX11_enter 45 = .ok (.bipush 12, 2) := by decide +kernel
theorem dX11_enter_47 : decode cX11_enter 47 = .ok (.imul, 1) := by decide +kernel
theorem dX11_enter_48 : decode cX11_enter 48 = .ok (.iload_n 3, 1) := by decide +kernel
theorem dX11_enter_49 : decode cX11_enter 49 = .ok (.iadd, 1) := by decide +kernel
theorem dX11_enter_50 : decode cX11_enter 50 = .ok (.iaload, 1) := by decide +kernel
theorem dX11_enter_51 : decode cX11_enter 51 = .ok (.aload_n 1, 1) := by decide +kernel
theorem dX11_enter_52 : decode cX11_enter 52 = .ok (.iload_n 2, 1) := by decide +kernel
theorem dX11_enter_53 : decode cX11_enter 53 = .ok (.iload_n 3, 1) := by decide +kernel
theorem dX11_enter_54 : decode cX11_enter 54 = .ok (.invokevirtual 280, 3) := by decide +kernel
theorem dX11_enter_57 : decode cX11_enter 57 = .ok (.isub, 1) := by decide +kernel
theorem dX11_enter_58 : decode cX11_enter 58 = .ok (.istore 5, 2) := by decide +kernel
theorem dX11_enter_60 : decode cX11_enter 60 = .ok (.iload 4, 2) := by decide +kernel
theorem dX11_enter_62 : decode cX11_enter 62 = .ok (.iload 5, 2) := by decide +kernel
theorem dX11_enter_64 : decode cX11_enter 64 = .ok (.if_icmp .gt 25, 3) := by decide +kernel
theorem dX11_enter_67 : decode cX11_enter 67 = .ok (.iload 4, 2) := by decide +kernel
theorem dX11_enter_69 : decode cX11_enter 69 = .ok (.aload_n 0, 1) := by decide +kernel
theorem dX11_enter_70 : decode cX11_enter 70 = .ok (.aload_n 1, 1) := by decide +kernel
theorem dX11_enter_71 : decode cX11_enter 71 = .ok (.iload_n 2, 1) := by decide +kernel
theorem dX11_enter_72 : decode cX11_enter 72 = .ok (.invokevirtual 181, 3) := by decide +kernel
theorem dX11_enter_75 : decode cX11_enter 75 = .ok (.if_icmp .gt 14, 3) := by decide +kernel
theorem dX11_enter_78 : decode cX11_enter 78 = .ok (.iload 4, 2) := by decide +kernel
theorem dX11_enter_80 : decode cX11_enter 80 = .ok (.aload_n 0, 1) := by decide +kernel
theorem dX11_enter_81 : decode cX11_enter 81 = .ok (.aload_n 1, 1) := by decide +kernel
theorem dX11_enter_82 : decode cX11_enter 82 = .ok (.iload_n 3, 1) := by decide +kernel
theorem dX11_enter_83 : decode cX11_enter 83 = .ok (.invokevirtual 181, 3) := by decide +kernel
theorem dX11_enter_86 : decode cX11_enter 86 = .ok (.if_icmp .le 6, 3) := by decide +kernel
theorem dX11_enter_89 : decode cX11_enter 89 = .ok (.bipush (-3), 2) := by decide +kernel
theorem dX11_enter_91 : decode cX11_enter 91 = .ok (.ireturn, 1) := by decide +kernel
theorem dX11_enter_92 : decode cX11_enter 92 = .ok (.aload_n 1, 1) := by decide +kernel
theorem dX11_enter_93 : decode cX11_enter 93 = .ok (.aload_n 1, 1) := by decide +kernel
theorem dX11_enter_94 : decode cX11_enter 94 = .ok (.getfield 273, 3) := by decide +kernel
theorem dX11_enter_97 : decode cX11_enter 97 = .ok (.iload_n 2, 1) := by decide +kernel
theorem dX11_enter_98 : decode cX11_enter 98 = .ok (.iload_n 3, 1) := by decide +kernel
theorem dX11_enter_99 : decode cX11_enter 99 = .ok (.iload 4, 2) := by decide +kernel
theorem dX11_enter_101 : decode cX11_enter 101 = .ok (.invokevirtual 305, 3) := by decide +kernel
theorem dX11_enter_104 : decode cX11_enter 104 = .ok (.aload_n 1, 1) := by decide +kernel
theorem dX11_enter_105 : decode cX11_enter 105 = .ok (.getfield 273, 3) := by decide +kernel
theorem dX11_enter_108 : decode cX11_enter 108 = .ok (.iconst 1, 1) := by decide +kernel
theorem dX11_enter_109 : decode cX11_enter 109 = .ok (.isub, 1) := by decide +kernel
theorem dX11_enter_110 : decode cX11_enter 110 = .ok (.ireturn, 1) := by decide +kernel
theorem dX11_withdraw_0 : decode cX11_withdraw 0 = .ok (.aload_n 0, 1) := by decide +kernel
theorem dX11_withdraw_1 : decode cX11_withdraw 1 = .ok (.getfield 29, 3) := by decide +kernel
theorem dX11_withdraw_4 : decode cX11_withdraw 4 = .ok (.iload_n 1, 1) := by decide +kernel
theorem dX11_withdraw_5 : decode cX11_withdraw 5 = .ok (.invokevirtual 308, 3) := by decide +kernel
theorem dX11_withdraw_8 : decode cX11_withdraw 8 = .ok (.ifCond .ne 5, 3) := by decide +kernel
theorem dX11_withdraw_11 : decode cX11_withdraw 11 = .ok (.iconst (-1), 1) := by decide +kernel
theorem dX11_withdraw_12 : decode cX11_withdraw 12 = .ok (.ireturn, 1) := by decide +kernel
theorem dX11_withdraw_13 : decode cX11_withdraw 13 = .ok (.aload_n 0, 1) := by decide +kernel
theorem dX11_withdraw_14 : decode cX11_withdraw 14 = .ok (.getfield 29, 3) := by decide +kernel
theorem dX11_withdraw_17 : decode cX11_withdraw 17 = .ok (.getfield 311, 3) := by decide +kernel
theorem dX11_withdraw_20 : decode cX11_withdraw 20 = .ok (.iload_n 1, 1) := by decide +kernel
theorem dX11_withdraw_21 : decode cX11_withdraw 21 = .ok (.iaload, 1) := by decide +kernel
theorem dX11_withdraw_22 : decode cX11_withdraw 22 = .ok (.istore_n 2, 1) := by decide +kernel
theorem dX11_withdraw_23 : decode cX11_withdraw 23 = .ok (.aload_n 0, 1) := by decide +kernel
theorem dX11_withdraw_24 : decode cX11_withdraw 24 = .ok (.getfield 36, 3) := by decide +kernel
theorem dX11_withdraw_27 : decode cX11_withdraw 27 = .ok (.iconst 1, 1) := by decide +kernel
theorem dX11_withdraw_28 : decode cX11_withdraw 28 = .ok (.iload_n 1, 1) := by decide +kernel
theorem dX11_withdraw_29 : decode cX11_withdraw 29 = .ok (.aload_n 0, 1) := by decide +kernel
theorem dX11_withdraw_30 : decode cX11_withdraw 30 = .ok (.getfield 29, 3) := by decide +kernel
theorem dX11_withdraw_33 : decode cX11_withdraw 33 = .ok (.getfield 274, 3) := by decide +kernel
theorem dX11_withdraw_36 : decode cX11_withdraw 36 = .ok (.iload_n 1, 1) := by decide +kernel
theorem dX11_withdraw_37 : decode cX11_withdraw 37 = .ok (.iaload, 1) := by decide +kernel
theorem dX11_withdraw_38 : decode cX11_withdraw 38 = .ok (.aload_n 0, 1) := by decide +kernel
theorem dX11_withdraw_39 : decode cX11_withdraw 39 = .ok (.getfield 29, 3) := by decide +kernel
theorem dX11_withdraw_42 : decode cX11_withdraw 42 = .ok (.getfield 277, 3) := by decide +kernel
theorem dX11_withdraw_45 : decode cX11_withdraw 45 = .ok (.iload_n 1, 1) := by decide +kernel
theorem dX11_withdraw_46 : decode cX11_withdraw 46 = .ok (.iaload, 1) := by decide +kernel
theorem dX11_withdraw_47 : decode cX11_withdraw 47 = .ok (.iload_n 2, 1) := by decide +kernel
theorem dX11_withdraw_48 : decode cX11_withdraw 48 = .ok (.invokevirtual 269, 3) := by decide +kernel
theorem dX11_withdraw_51 : decode cX11_withdraw 51 = .ok (.aload_n 0, 1) := by decide +kernel
theorem dX11_withdraw_52 : decode cX11_withdraw 52 = .ok (.getfield 29, 3) := by decide +kernel
theorem dX11_withdraw_55 : decode cX11_withdraw 55 = .ok (.iload_n 1, 1) := by decide +kernel
theorem dX11_withdraw_56 : decode cX11_withdraw 56 = .ok (.invokevirtual 314, 3) := by decide +kernel
theorem dX11_withdraw_59 : decode cX11_withdraw 59 = .ok (.aload_n 0, 1) := by decide +kernel
theorem dX11_withdraw_60 : decode cX11_withdraw 60 = .ok (.iconst 0, 1) := by decide +kernel
theorem dX11_withdraw_61 : decode cX11_withdraw 61 = .ok (.putfield 102, 3) := by decide +kernel
theorem dX11_withdraw_64 : decode cX11_withdraw 64 = .ok (.iload_n 2, 1) := by decide +kernel
theorem dX11_withdraw_65 : decode cX11_withdraw 65 = .ok (.ireturn, 1) := by decide +kernel
theorem dX11_claimed_0 : decode cX11_claimed 0 = .ok (.aload_n 0, 1) := by decide +kernel
theorem dX11_claimed_1 : decode cX11_claimed 1 = .ok (.getfield 29, 3) := by decide +kernel
theorem dX11_claimed_4 : decode cX11_claimed 4 = .ok (.iload_n 1, 1) := by decide +kernel
theorem dX11_claimed_5 : decode cX11_claimed 5 = .ok (.invokevirtual 308, 3) := by decide +kernel
theorem dX11_claimed_8 : decode cX11_claimed 8 = .ok (.ifCond .ne 5, 3) := by decide +kernel
theorem dX11_claimed_11 : decode cX11_claimed 11 = .ok (.iconst (-1), 1) := by decide +kernel
theorem dX11_claimed_12 : decode cX11_claimed 12 = .ok (.ireturn, 1) := by decide +kernel
theorem dX11_claimed_13 : decode cX11_claimed 13 = .ok (.aload_n 0, 1) := by decide +kernel
theorem dX11_claimed_14 : decode cX11_claimed 14 = .ok (.getfield 29, 3) := by decide +kernel
theorem dX11_claimed_17 : decode cX11_claimed 17 = .ok (.getfield 274, 3) := by decide +kernel
theorem dX11_claimed_20 : decode cX11_claimed 20 = .ok (.iload_n 1, 1) := by decide +kernel
theorem dX11_claimed_21 : decode cX11_claimed 21 = .ok (.iaload, 1) := by decide +kernel
theorem dX11_claimed_22 : decode cX11_claimed 22 = .ok (.istore_n 3, 1) := by decide +kernel
theorem dX11_claimed_23 : decode cX11_claimed 23 = .ok (.aload_n 0, 1) := by decide +kernel
theorem dX11_claimed_24 : decode cX11_claimed 24 = .ok (.getfield 29, 3) := by decide +kernel
theorem dX11_claimed_27 : decode cX11_claimed 27 = .ok (.getfield 277, 3) := by decide +kernel
theorem dX11_claimed_30 : decode cX11_claimed 30 = .ok (.iload_n 1, 1) := by decide +kernel
theorem dX11_claimed_31 : decode cX11_claimed 31 = .ok (.iaload, 1) := by decide +kernel
theorem dX11_claimed_32 : decode cX11_claimed 32 = .ok (.istore 4, 2) := by decide +kernel
theorem dX11_claimed_34 : decode cX11_claimed 34 = .ok (.iload_n 2, 1) := by decide +kernel
theorem dX11_claimed_35 : decode cX11_claimed 35 = .ok (.tableswitch 64 0 3 #[29, 31, 34, 44], 29) := by decide +kernel
theorem dX11_claimed_64 : decode cX11_claimed 64 = .ok (.iload_n 3, 1) := by decide +kernel
theorem dX11_claimed_65 : decode cX11_claimed 65 = .ok (.ireturn, 1) := by decide +kernel
theorem dX11_claimed_66 : decode cX11_claimed 66 = .ok (.iload 4, 2) := by decide +kernel
theorem dX11_claimed_68 : decode cX11_claimed 68 = .ok (.ireturn, 1) := by decide +kernel
theorem dX11_claimed_69 : decode cX11_claimed 69 = .ok (.aload_n 0, 1) := by decide +kernel
theorem dX11_claimed_70 : decode cX11_claimed 70 = .ok (.getfield 29, 3) := by decide +kernel
theorem dX11_claimed_73 : decode cX11_claimed 73 = .ok (.getfield 311, 3) := by decide +kernel
theorem dX11_claimed_76 : decode cX11_claimed 76 = .ok (.iload_n 1, 1) := by decide +kernel
theorem dX11_claimed_77 : decode cX11_claimed 77 = .ok (.iaload, 1) := by decide +kernel
theorem dX11_claimed_78 : decode cX11_claimed 78 = .ok (.ireturn, 1) := by decide +kernel
theorem dX11_claimed_79 : decode cX11_claimed 79 = .ok (.aload_n 0, 1) := by decide +kernel
theorem dX11_claimed_80 : decode cX11_claimed 80 = .ok (.getfield 19, 3) := by decide +kernel
theorem dX11_claimed_83 : decode cX11_claimed 83 = .ok (.iload_n 3, 1) := by decide +kernel
theorem dX11_claimed_84 : decode cX11_claimed 84 = .ok (.iload 4, 2) := by decide +kernel
theorem dX11_claimed_86 : decode cX11_claimed 86 = .ok (.aload_n 0, 1) := by decide +kernel
theorem dX11_claimed_87 : decode cX11_claimed 87 = .ok (.getfield 29, 3) := by decide +kernel
theorem dX11_claimed_90 : decode cX11_claimed 90 = .ok (.getfield 311, 3) := by decide +kernel
theorem dX11_claimed_93 : decode cX11_claimed 93 = .ok (.iload_n 1, 1) := by decide +kernel
theorem dX11_claimed_94 : decode cX11_claimed 94 = .ok (.iaload, 1) := by decide +kernel
theorem dX11_claimed_95 : decode cX11_claimed 95 = .ok (.invokevirtual 317, 3) := by decide +kernel
theorem dX11_claimed_98 : decode cX11_claimed 98 = .ok (.ireturn, 1) := by decide +kernel
theorem dX11_claimed_99 : decode cX11_claimed 99 = .ok (.iconst (-1), 1) := by decide +kernel
theorem dX11_claimed_100 : decode cX11_claimed 100 = .ok (.ireturn, 1) := by decide +kernel
theorem dX11_claimAll_0 : decode cX11_claimAll 0 = .ok (.aload_n 0, 1) := by decide +kernel
theorem dX11_claimAll_1 : decode cX11_claimAll 1 = .ok (.invokevirtual 321, 3) := by decide +kernel
theorem dX11_claimAll_4 : decode cX11_claimAll 4 = .ok (.iconst 0, 1) := by decide +kernel
theorem dX11_claimAll_5 : decode cX11_claimAll 5 = .ok (.istore_n 1, 1) := by decide +kernel
theorem dX11_claimAll_6 : decode cX11_claimAll 6 = .ok (.iconst 0, 1) := by decide +kernel
theorem dX11_claimAll_7 : decode cX11_claimAll 7 = .ok (.istore_n 2, 1) := by decide +kernel
theorem dX11_claimAll_8 : decode cX11_claimAll 8 = .ok (.iload_n 2, 1) := by decide +kernel
theorem dX11_claimAll_9 : decode cX11_claimAll 9 = .ok (.aload_n 0, 1) := by decide +kernel
theorem dX11_claimAll_10 : decode cX11_claimAll 10 = .ok (.getfield 19, 3) := by decide +kernel
theorem dX11_claimAll_13 : decode cX11_claimAll 13 = .ok (.getfield 324, 3) := by decide +kernel
theorem dX11_claimAll_16 : decode cX11_claimAll 16 = .ok (.if_icmp .ge 82, 3) := by decide +kernel
theorem dX11_claimAll_19 : decode cX11_claimAll 19 = .ok (.iconst 0, 1) := by decide +kernel
theorem dX11_claimAll_20 : decode cX11_claimAll 20 = .ok (.istore_n 3, 1) := by decide +kernel
theorem dX11_claimAll_21 : decode cX11_claimAll 21 = .ok (.iload_n 3, 1) := by decide +kernel
theorem dX11_claimAll_22 : decode cX11_claimAll 22 = .ok (.aload_n 0, 1) := by decide +kernel
theorem dX11_claimAll_23 : decode cX11_claimAll 23 = .ok (.getfield 19, 3) := by decide +kernel
theorem dX11_claimAll_26 : decode cX11_claimAll 26 = .ok (.getfield 324, 3) := by decide +kernel
theorem dX11_claimAll_29 : decode cX11_claimAll 29 = .ok (.if_icmp .ge 63, 3) := by decide +kernel
theorem dX11_claimAll_32 : decode cX11_claimAll 32 = .ok (.aload_n 0, 1) := by decide +kernel
theorem dX11_claimAll_33 : decode cX11_claimAll 33 = .ok (.getfield 71, 3) := by decide +kernel
theorem dX11_claimAll_36 : decode cX11_claimAll 36 = .ok (.getfield 327, 3) := by decide +kernel
theorem dX11_claimAll_39 : decode cX11_claimAll 39 = .ok (.iload_n 2, 1) := by decide +kernel
theorem dX11_claimAll_40 : decode cX11_claimAll 40 = .ok (.bipush 12, 2) := by decide +kernel
theorem dX11_claimAll_42 : decode cX11_claimAll 42 = .ok (.imul, 1) := by decide +kernel
theorem dX11_claimAll_43 : decode cX11_claimAll 43 = .ok (.iload_n 3, 1) := by decide +kernel
theorem dX11_claimAll_44 : decode cX11_claimAll 44 = .ok (.iadd, 1) := by decide +kernel
theorem dX11_claimAll_45 : decode cX11_claimAll 45 = .ok (.iaload, 1) := by decide +kernel
theorem dX11_claimAll_46 : decode cX11_claimAll 46 = .ok (.istore 4, 2) := by decide +kernel
theorem dX11_claimAll_48 : decode cX11_claimAll 48 = .ok (.iload 4, 2) := by decide +kernel
theorem dX11_claimAll_50 : decode cX11_claimAll 50 = .ok (.ifCond .le 36, 3) := by decide +kernel
theorem dX11_claimAll_53 : decode cX11_claimAll 53 = .ok (.aload_n 0, 1) := by decide +kernel
theorem dX11_claimAll_54 : decode cX11_claimAll 54 = .ok (.getfield 29, 3) := by decide +kernel
theorem dX11_claimAll_57 : decode cX11_claimAll 57 = .ok (.getfield 273, 3) := by decide +kernel
theorem dX11_claimAll_60 : decode cX11_claimAll 60 = .ok (.bipush 30, 2) := by decide +kernel
theorem dX11_claimAll_62 : decode cX11_claimAll 62 = .ok (.if_icmp .ge 24, 3) := by decide +kernel
theorem dX11_claimAll_65 : decode cX11_claimAll 65 = .ok (.aload_n 0, 1) := by decide +kernel
theorem dX11_claimAll_66 : decode cX11_claimAll 66 = .ok (.getfield 29, 3) := by decide +kernel
theorem dX11_claimAll_69 : decode cX11_claimAll 69 = .ok (.aload_n 0, 1) := by decide +kernel
theorem dX11_claimAll_70 : decode cX11_claimAll 70 = .ok (.getfield 29, 3) := by decide +kernel
theorem dX11_claimAll_73 : decode cX11_claimAll 73 = .ok (.getfield 273, 3) := by decide +kernel
theorem dX11_claimAll_76 : decode cX11_claimAll 76 = .ok (.iload_n 2, 1) := by decide +kernel
theorem dX11_claimAll_77 : decode cX11_claimAll 77 = .ok (.iload_n 3, 1) := by decide +kernel
theorem dX11_claimAll_78 : decode cX11_claimAll 78 = .ok (.iload 4, 2) := by decide +kernel
theorem dX11_claimAll_80 : decode cX11_claimAll 80 = .ok (.invokevirtual 305, 3) := by decide +kernel
theorem dX11_claimAll_83 : decode cX11_claimAll 83 = .ok (.iinc 1 1, 3) := by decide +kernel
theorem dX11_claimAll_86 : decode cX11_claimAll 86 = .ok (.iinc 3 1, 3) := by decide +kernel
theorem dX11_claimAll_89 : decode cX11_claimAll 89 = .ok (.goto (-68), 3) := by decide +kernel
theorem dX11_claimAll_92 : decode cX11_claimAll 92 = .ok (.iinc 2 1, 3) := by decide +kernel
theorem dX11_claimAll_95 : decode cX11_claimAll 95 = .ok (.goto (-87), 3) := by decide +kernel
theorem dX11_claimAll_98 : decode cX11_claimAll 98 = .ok (.iload_n 1, 1) := by decide +kernel
theorem dX11_claimAll_99 : decode cX11_claimAll 99 = .ok (.ifCond .le 20, 3) := by decide +kernel
theorem dX11_claimAll_102 : decode cX11_claimAll 102 = .ok (.aload_n 0, 1) := by decide +kernel
theorem dX11_claimAll_103 : decode cX11_claimAll 103 = .ok (.getfield 36, 3) := by decide +kernel
theorem dX11_claimAll_106 : decode cX11_claimAll 106 = .ok (.iconst 0, 1) := by decide +kernel
theorem dX11_claimAll_107 : decode cX11_claimAll 107 = .ok (.iload_n 1, 1) := by decide +kernel
theorem dX11_claimAll_108 : decode cX11_claimAll 108 = .ok (.iconst 0, 1) := by decide +kernel
theorem dX11_claimAll_109 : decode cX11_claimAll 109 = .ok (.iconst 0, 1) := by decide +kernel
theorem dX11_claimAll_110 : decode cX11_claimAll 110 = .ok (.iconst 0, 1) := by decide +kernel
theorem dX11_claimAll_111 : decode cX11_claimAll 111 = .ok (.invokevirtual 269, 3) := by decide +kernel
theorem dX11_claimAll_114 : decode cX11_claimAll 114 = .ok (.aload_n 0, 1) := by decide +kernel
theorem dX11_claimAll_115 : decode cX11_claimAll 115 = .ok (.iconst 0, 1) := by decide +kernel
theorem dX11_claimAll_116 : decode cX11_claimAll 116 = .ok (.putfield 102, 3) := by decide +kernel
theorem dX11_claimAll_119 : decode cX11_claimAll 119 = .ok (.iload_n 1, 1) := by decide +kernel
theorem dX11_claimAll_120 : decode cX11_claimAll 120 = .ok (.ireturn, 1) := by decide +kernel
theorem dX11_result_0 : decode cX11_result 0 = .ok (.aload_n 0, 1) := by decide +kernel
theorem dX11_result_1 : decode cX11_result 1 = .ok (.getfield 19, 3) := by decide +kernel
theorem dX11_result_4 : decode cX11_result 4 = .ok (.iload_n 1, 1) := by decide +kernel
theorem dX11_result_5 : decode cX11_result 5 = .ok (.invokevirtual 165, 3) := by decide +kernel
theorem dX11_result_8 : decode cX11_result 8 = .ok (.ifCond .eq 28, 3) := by decide +kernel
theorem dX11_result_11 : decode cX11_result 11 = .ok (.iload_n 2, 1) := by decide +kernel
theorem dX11_result_12 : decode cX11_result 12 = .ok (.ldc_w 330, 3) := by decide +kernel
theorem dX11_result_15 : decode cX11_result 15 = .ok (.if_icmp .lt 21, 3) := by decide +kernel
theorem dX11_result_18 : decode cX11_result 18 = .ok (.iload_n 2, 1) := by decide +kernel
theorem dX11_result_19 : decode cX11_result 19 = .ok (.ldc_w 304, 3) := by decide +kernel
theorem dX11_result_22 : decode cX11_result 22 = .ok (.if_icmp .gt 14, 3) := by decide +kernel
theorem dX11_result_25 : decode cX11_result 25 = .ok (.aload_n 0, 1) := by decide +kernel
theorem dX11_result_26 : decode cX11_result 26 = .ok (.getfield 29, 3) := by decide +kernel
theorem dX11_result_29 : decode cX11_result 29 = .ok (.iload_n 1, 1) := by decide +kernel
theorem dX11_result_30 : decode cX11_result 30 = .ok (.invokevirtual 331, 3) := by decide +kernel
theorem dX11_result_33 : decode cX11_result 33 = .ok (.ifCond .eq 5, 3) := by decide +kernel
theorem dX11_result_36 : decode cX11_result 36 = .ok (.iconst 0, 1) := by decide +kernel
theorem dX11_result_37 : decode cX11_result 37 = .ok (.ireturn, 1) := by decide +kernel
theorem dX11_result_38 : decode cX11_result 38 = .ok (.aload_n 0, 1) := by decide +kernel
theorem dX11_result_39 : decode cX11_result 39 = .ok (.getfield 36, 3) := by decide +kernel
theorem dX11_result_42 : decode cX11_result 42 = .ok (.iconst 2, 1) := by decide +kernel
theorem dX11_result_43 : decode cX11_result 43 = .ok (.iload_n 1, 1) := by decide +kernel
theorem dX11_result_44 : decode cX11_result 44 = .ok (.aload_n 0, 1) := by decide +kernel
theorem dX11_result_45 : decode cX11_result 45 = .ok (.getfield 19, 3) := by decide +kernel
theorem dX11_result_48 : decode cX11_result 48 = .ok (.getfield 178, 3) := by decide +kernel
theorem dX11_result_51 : decode cX11_result 51 = .ok (.iload_n 1, 1) := by decide +kernel
theorem dX11_result_52 : decode cX11_result 52 = .ok (.iaload, 1) := by decide +kernel
theorem dX11_result_53 : decode cX11_result 53 = .ok (.iconst 0, 1) := by decide +kernel
theorem dX11_result_54 : decode cX11_result 54 = .ok (.iconst 0, 1) := by decide +kernel
theorem dX11_result_55 : decode cX11_result 55 = .ok (.invokevirtual 269, 3) := by decide +kernel
theorem dX11_result_58 : decode cX11_result 58 = .ok (.aload_n 0, 1) := by decide +kernel
theorem dX11_result_59 : decode cX11_result 59 = .ok (.getfield 19, 3) := by decide +kernel
theorem dX11_result_62 : decode cX11_result 62 = .ok (.getfield 178, 3) := by decide +kernel
theorem dX11_result_65 : decode cX11_result 65 = .ok (.iload_n 1, 1) := by decide +kernel
theorem dX11_result_66 : decode cX11_result 66 = .ok (.iload_n 2, 1) := by decide +kernel
theorem dX11_result_67 : decode cX11_result 67 = .ok (.iastore, 1) := by decide +kernel
theorem dX11_result_68 : decode cX11_result 68 = .ok (.aload_n 0, 1) := by decide +kernel
theorem dX11_result_69 : decode cX11_result 69 = .ok (.invokevirtual 124, 3) := by decide +kernel
theorem dX11_result_72 : decode cX11_result 72 = .ok (.iconst 1, 1) := by decide +kernel
theorem dX11_result_73 : decode cX11_result 73 = .ok (.ireturn, 1) := by decide +kernel
theorem dX11_relief_0 : decode cX11_relief 0 = .ok (.aload_n 0, 1) := by decide +kernel
theorem dX11_relief_1 : decode cX11_relief 1 = .ok (.iload_n 1, 1) := by decide +kernel
theorem dX11_relief_2 : decode cX11_relief 2 = .ok (.iload_n 2, 1) := by decide +kernel
theorem dX11_relief_3 : decode cX11_relief 3 = .ok (.invokevirtual 294, 3) := by decide +kernel
theorem dX11_relief_6 : decode cX11_relief 6 = .ok (.ifCond .ne 5, 3) := by decide +kernel
theorem dX11_relief_9 : decode cX11_relief 9 = .ok (.iconst (-1), 1) := by decide +kernel
theorem dX11_relief_10 : decode cX11_relief 10 = .ok (.ireturn, 1) := by decide +kernel
theorem dX11_relief_11 : decode cX11_relief 11 = .ok (.aload_n 0, 1) := by decide +kernel
theorem dX11_relief_12 : decode cX11_relief 12 = .ok (.invokevirtual 321, 3) := by decide +kernel
theorem dX11_relief_15 : decode cX11_relief 15 = .ok (.aload_n 0, 1) := by decide +kernel
theorem dX11_relief_16 : decode cX11_relief 16 = .ok (.getfield 71, 3) := by decide +kernel
theorem dX11_relief_19 : decode cX11_relief 19 = .ok (.getfield 327, 3) := by decide +kernel
theorem dX11_relief_22 : decode cX11_relief 22 = .ok (.iload_n 1, 1) := by decide +kernel
theorem dX11_relief_23 : decode cX11_relief 23 = .ok (.bipush 12, 2) := by decide +kernel
theorem dX11_relief_25 : decode cX11_relief 25 = .ok (.imul, 1) := by decide +kernel
theorem dX11_relief_26 : decode cX11_relief 26 = .ok (.iload_n 2, 1) := by decide +kernel
theorem dX11_relief_27 : decode cX11_relief 27 = .ok (.iadd, 1) := by decide +kernel
theorem dX11_relief_28 : decode cX11_relief 28 = .ok (.iaload, 1) := by decide +kernel
theorem dX11_relief_29 : decode cX11_relief 29 = .ok (.ireturn, 1) := by decide +kernel
theorem dX11_solved_0 : decode cX11_solved 0 = .ok (.iload_n 1, 1) := by decide +kernel
theorem dX11_solved_1 : decode cX11_solved 1 = .ok (.ifCond .lt 8, 3) := by decide +kernel
theorem dX11_solved_4 : decode cX11_solved 4 = .ok (.iload_n 1, 1) := by decide +kernel
theorem dX11_solved_5 : decode cX11_solved 5 = .ok (.iconst 3, 1) := by decide +kernel
theorem dX11_solved_6 : decode cX11_solved 6 = .ok (.if_icmp .le 7, 3) := by decide +kernel
theorem dX11_solved_9 : decode cX11_solved 9 = .ok (.ldc2_w 334, 3) := by decide +kernel
theorem dX11_solved_12 : decode cX11_solved 12 = .ok (.lreturn, 1) := by decide +kernel
theorem dX11_solved_13 : decode cX11_solved 13 = .ok (.aload_n 0, 1) := by decide +kernel
theorem dX11_solved_14 : decode cX11_solved 14 = .ok (.invokevirtual 321, 3) := by decide +kernel
theorem dX11_solved_17 : decode cX11_solved 17 = .ok (.iload_n 1, 1) := by decide +kernel
theorem dX11_solved_18 : decode cX11_solved 18 = .ok (.tableswitch 52 0 2 #[26, 35, 43], 26) := by decide +kernel
theorem dX11_solved_44 : decode cX11_solved 44 = .ok (.aload_n 0, 1) := by decide +kernel
theorem dX11_solved_45 : decode cX11_solved 45 = .ok (.getfield 71, 3) := by decide +kernel
theorem dX11_solved_48 : decode cX11_solved 48 = .ok (.getfield 336, 3) := by decide +kernel
theorem dX11_solved_51 : decode cX11_solved 51 = .ok (.i2l, 1) := by decide +kernel
theorem dX11_solved_52 : decode cX11_solved 52 = .ok (.lreturn, 1) := by decide +kernel
theorem dX11_solved_53 : decode cX11_solved 53 = .ok (.aload_n 0, 1) := by decide +kernel
theorem dX11_solved_54 : decode cX11_solved 54 = .ok (.getfield 71, 3) := by decide +kernel
theorem dX11_solved_57 : decode cX11_solved 57 = .ok (.invokevirtual 339, 3) := by decide +kernel
theorem dX11_solved_60 : decode cX11_solved 60 = .ok (.lreturn, 1) := by decide +kernel
theorem dX11_solved_61 : decode cX11_solved 61 = .ok (.aload_n 0, 1) := by decide +kernel
theorem dX11_solved_62 : decode cX11_solved 62 = .ok (.getfield 71, 3) := by decide +kernel
theorem dX11_solved_65 : decode cX11_solved 65 = .ok (.getfield 343, 3) := by decide +kernel
theorem dX11_solved_68 : decode cX11_solved 68 = .ok (.i2l, 1) := by decide +kernel
theorem dX11_solved_69 : decode cX11_solved 69 = .ok (.lreturn, 1) := by decide +kernel
theorem dX11_solved_70 : decode cX11_solved 70 = .ok (.aload_n 0, 1) := by decide +kernel
theorem dX11_solved_71 : decode cX11_solved 71 = .ok (.getfield 71, 3) := by decide +kernel
theorem dX11_solved_74 : decode cX11_solved 74 = .ok (.invokevirtual 346, 3) := by decide +kernel
theorem dX11_solved_77 : decode cX11_solved 77 = .ok (.i2l, 1) := by decide +kernel
theorem dX11_solved_78 : decode cX11_solved 78 = .ok (.lreturn, 1) := by decide +kernel
theorem dX11_reached_0 : decode cX11_reached 0 = .ok (.aload_n 0, 1) := by decide +kernel
theorem dX11_reached_1 : decode cX11_reached 1 = .ok (.invokevirtual 321, 3) := by decide +kernel
theorem dX11_reached_4 : decode cX11_reached 4 = .ok (.aload_n 0, 1) := by decide +kernel
theorem dX11_reached_5 : decode cX11_reached 5 = .ok (.getfield 71, 3) := by decide +kernel
theorem dX11_reached_8 : decode cX11_reached 8 = .ok (.invokevirtual 349, 3) := by decide +kernel
theorem dX11_reached_11 : decode cX11_reached 11 = .ok (.ireturn, 1) := by decide +kernel
theorem dX11_left_0 : decode cX11_left 0 = .ok (.aload_n 0, 1) := by decide +kernel
theorem dX11_left_1 : decode cX11_left 1 = .ok (.getfield 19, 3) := by decide +kernel
theorem dX11_left_4 : decode cX11_left 4 = .ok (.iload_n 1, 1) := by decide +kernel
theorem dX11_left_5 : decode cX11_left 5 = .ok (.invokevirtual 165, 3) := by decide +kernel
theorem dX11_left_8 : decode cX11_left 8 = .ok (.ifCond .ne 5, 3) := by decide +kernel
theorem dX11_left_11 : decode cX11_left 11 = .ok (.iconst (-1), 1) := by decide +kernel
theorem dX11_left_12 : decode cX11_left 12 = .ok (.ireturn, 1) := by decide +kernel
theorem dX11_left_13 : decode cX11_left 13 = .ok (.aload_n 0, 1) := by decide +kernel
theorem dX11_left_14 : decode cX11_left 14 = .ok (.invokevirtual 321, 3) := by decide +kernel
theorem dX11_left_17 : decode cX11_left 17 = .ok (.aload_n 0, 1) := by decide +kernel
theorem dX11_left_18 : decode cX11_left 18 = .ok (.getfield 71, 3) := by decide +kernel
theorem dX11_left_21 : decode cX11_left 21 = .ok (.getfield 352, 3) := by decide +kernel
theorem dX11_left_24 : decode cX11_left 24 = .ok (.iload_n 1, 1) := by decide +kernel
theorem dX11_left_25 : decode cX11_left 25 = .ok (.iaload, 1) := by decide +kernel
theorem dX11_left_26 : decode cX11_left 26 = .ok (.ireturn, 1) := by decide +kernel
theorem dX11_route_0 : decode cX11_route 0 = .ok (.iload_n 1, 1) := by decide +kernel
theorem dX11_route_1 : decode cX11_route 1 = .ok (.ifCond .ge 5, 3) := by decide +kernel
theorem dX11_route_4 : decode cX11_route 4 = .ok (.iconst (-1), 1) := by decide +kernel
theorem dX11_route_5 : decode cX11_route 5 = .ok (.ireturn, 1) := by decide +kernel
theorem dX11_route_6 : decode cX11_route 6 = .ok (.aload_n 0, 1) := by decide +kernel
theorem dX11_route_7 : decode cX11_route 7 = .ok (.invokevirtual 321, 3) := by decide +kernel
theorem dX11_route_10 : decode cX11_route 10 = .ok (.iload_n 1, 1) := by decide +kernel
theorem dX11_route_11 : decode cX11_route 11 = .ok (.aload_n 0, 1) := by decide +kernel
theorem dX11_route_12 : decode cX11_route 12 = .ok (.getfield 71, 3) := by decide +kernel
theorem dX11_route_15 : decode cX11_route 15 = .ok (.getfield 355, 3) := by decide +kernel
theorem dX11_route_18 : decode cX11_route 18 = .ok (.if_icmp .ge 15, 3) := by decide +kernel
theorem dX11_route_21 : decode cX11_route 21 = .ok (.aload_n 0, 1) := by decide +kernel
theorem dX11_route_22 : decode cX11_route 22 = .ok (.getfield 71, 3) := by decide +kernel
theorem dX11_route_25 : decode cX11_route 25 = .ok (.getfield 358, 3) := by decide +kernel
theorem dX11_route_28 : decode cX11_route 28 = .ok (.iload_n 1, 1) := by decide +kernel
theorem dX11_route_29 : decode cX11_route 29 = .ok (.iaload, 1) := by decide +kernel
theorem dX11_route_30 : decode cX11_route 30 = .ok (.goto 5, 3) := by decide +kernel
theorem dX11_route_33 : decode cX11_route 33 = .ok (.bipush (-2), 2) := by decide +kernel
theorem dX11_route_35 : decode cX11_route 35 = .ok (.ireturn, 1) := by decide +kernel
theorem dX11_dearest_0 : decode cX11_dearest 0 = .ok (.aload_n 0, 1) := by decide +kernel
theorem dX11_dearest_1 : decode cX11_dearest 1 = .ok (.invokevirtual 321, 3) := by decide +kernel
theorem dX11_dearest_4 : decode cX11_dearest 4 = .ok (.bipush (-2), 2) := by decide +kernel
theorem dX11_dearest_6 : decode cX11_dearest 6 = .ok (.istore_n 1, 1) := by decide +kernel
theorem dX11_dearest_7 : decode cX11_dearest 7 = .ok (.iconst (-1), 1) := by decide +kernel
theorem dX11_dearest_8 : decode cX11_dearest 8 = .ok (.istore_n 2, 1) := by decide +kernel
theorem dX11_dearest_9 : decode cX11_dearest 9 = .ok (.iconst 0, 1) := by decide +kernel
theorem dX11_dearest_10 : decode cX11_dearest 10 = .ok (.istore_n 3, 1) := by decide +kernel
theorem dX11_dearest_11 : decode cX11_dearest 11 = .ok (.iload_n 3, 1) := by decide +kernel
theorem dX11_dearest_12 : decode cX11_dearest 12 = .ok (.aload_n 0, 1) := by decide +kernel
theorem dX11_dearest_13 : decode cX11_dearest 13 = .ok (.getfield 19, 3) := by decide +kernel
theorem dX11_dearest_16 : decode cX11_dearest 16 = .ok (.getfield 324, 3) := by decide +kernel
theorem dX11_dearest_19 : decode cX11_dearest 19 = .ok (.if_icmp .ge 85, 3) := by decide +kernel
theorem dX11_dearest_22 : decode cX11_dearest 22 = .ok (.iconst 0, 1) := by decide +kernel
theorem dX11_dearest_23 : decode cX11_dearest 23 = .ok (.istore 4, 2) := by decide +kernel
theorem dX11_dearest_25 : decode cX11_dearest 25 = .ok (.iload 4, 2) := by decide +kernel
theorem dX11_dearest_27 : decode cX11_dearest 27 = .ok (.aload_n 0, 1) := by decide +kernel
theorem dX11_dearest_28 : decode cX11_dearest 28 = .ok (.getfield 19, 3) := by decide +kernel
theorem dX11_dearest_31 : decode cX11_dearest 31 = .ok (.getfield 324, 3) := by decide +kernel
theorem dX11_dearest_34 : decode cX11_dearest 34 = .ok (.if_icmp .ge 64, 3) := by decide +kernel
theorem dX11_dearest_37 : decode cX11_dearest 37 = .ok (.iload_n 3, 1) := by decide +kernel
theorem dX11_dearest_38 : decode cX11_dearest 38 = .ok (.bipush 12, 2) := by decide +kernel
theorem dX11_dearest_40 : decode cX11_dearest 40 = .ok (.imul, 1) := by decide +kernel
theorem dX11_dearest_41 : decode cX11_dearest 41 = .ok (.iload 4, 2) := by decide +kernel
theorem dX11_dearest_43 : decode cX11_dearest 43 = .ok (.iadd, 1) := by decide +kernel
theorem dX11_dearest_44 : decode cX11_dearest 44 = .ok (.istore 5, 2) := by decide +kernel
theorem dX11_dearest_46 : decode cX11_dearest 46 = .ok (.aload_n 0, 1) := by decide +kernel
theorem dX11_dearest_47 : decode cX11_dearest 47 = .ok (.getfield 71, 3) := by decide +kernel
theorem dX11_dearest_50 : decode cX11_dearest 50 = .ok (.getfield 327, 3) := by decide +kernel
theorem dX11_dearest_53 : decode cX11_dearest 53 = .ok (.iload 5, 2) := by decide +kernel
theorem dX11_dearest_55 : decode cX11_dearest 55 = .ok (.iaload, 1) := by decide +kernel
theorem dX11_dearest_56 : decode cX11_dearest 56 = .ok (.ifCond .le 36, 3) := by decide +kernel
theorem dX11_dearest_59 : decode cX11_dearest 59 = .ok (.aload_n 0, 1) := by decide +kernel
theorem dX11_dearest_60 : decode cX11_dearest 60 = .ok (.getfield 64, 3) := by decide +kernel
theorem dX11_dearest_63 : decode cX11_dearest 63 = .ok (.getfield 297, 3) := by decide +kernel
theorem dX11_dearest_66 : decode cX11_dearest 66 = .ok (.iload 5, 2) := by decide +kernel
theorem dX11_dearest_68 : decode cX11_dearest 68 = .ok (.iaload, 1) := by decide +kernel
theorem dX11_dearest_69 : decode cX11_dearest 69 = .ok (.iload_n 2, 1) := by decide +kernel
theorem dX11_dearest_70 : decode cX11_dearest 70 = .ok (.if_icmp .le 22, 3) := by decide +kernel
theorem dX11_dearest_73 : decode cX11_dearest 73 = .ok (.aload_n 0, 1) := by decide +kernel
theorem dX11_dearest_74 : decode cX11_dearest 74 = .ok (.getfield 64, 3) := by decide +kernel
theorem dX11_dearest_77 : decode cX11_dearest 77 = .ok (.getfield 297, 3) := by decide +kernel
theorem dX11_dearest_80 : decode cX11_dearest 80 = .ok (.iload 5, 2) := by decide +kernel
theorem dX11_dearest_82 : decode cX11_dearest 82 = .ok (.iaload, 1) := by decide +kernel
theorem dX11_dearest_83 : decode cX11_dearest 83 = .ok (.istore_n 2, 1) := by decide +kernel
theorem dX11_dearest_84 : decode cX11_dearest 84 = .ok (.bipush 16, 2) := by decide +kernel
theorem dX11_dearest_86 : decode cX11_dearest 86 = .ok (.iload_n 3, 1) := by decide +kernel
theorem dX11_dearest_87 : decode cX11_dearest 87 = .ok (.imul, 1) := by decide +kernel
theorem dX11_dearest_88 : decode cX11_dearest 88 = .ok (.iload 4, 2) := by decide +kernel
theorem dX11_dearest_90 : decode cX11_dearest 90 = .ok (.iadd, 1) := by decide +kernel
theorem dX11_dearest_91 : decode cX11_dearest 91 = .ok (.istore_n 1, 1) := by decide +kernel
theorem dX11_dearest_92 : decode cX11_dearest 92 = .ok (.iinc 4 1, 3) := by decide +kernel
theorem dX11_dearest_95 : decode cX11_dearest 95 = .ok (.goto (-70), 3) := by decide +kernel
theorem dX11_dearest_98 : decode cX11_dearest 98 = .ok (.iinc 3 1, 3) := by decide +kernel
theorem dX11_dearest_101 : decode cX11_dearest 101 = .ok (.goto (-90), 3) := by decide +kernel
theorem dX11_dearest_104 : decode cX11_dearest 104 = .ok (.iload_n 1, 1) := by decide +kernel
theorem dX11_dearest_105 : decode cX11_dearest 105 = .ok (.ireturn, 1) := by decide +kernel
theorem dX11_carried_0 : decode cX11_carried 0 = .ok (.iload_n 1, 1) := by decide +kernel
theorem dX11_carried_1 : decode cX11_carried 1 = .ok (.ifCond .lt 8, 3) := by decide +kernel
theorem dX11_carried_4 : decode cX11_carried 4 = .ok (.iload_n 1, 1) := by decide +kernel
theorem dX11_carried_5 : decode cX11_carried 5 = .ok (.iconst 3, 1) := by decide +kernel
theorem dX11_carried_6 : decode cX11_carried 6 = .ok (.if_icmp .le 5, 3) := by decide +kernel
theorem dX11_carried_9 : decode cX11_carried 9 = .ok (.iconst (-1), 1) := by decide +kernel
theorem dX11_carried_10 : decode cX11_carried 10 = .ok (.ireturn, 1) := by decide +kernel
theorem dX11_carried_11 : decode cX11_carried 11 = .ok (.iload_n 1, 1) := by decide +kernel
theorem dX11_carried_12 : decode cX11_carried 12 = .ok (.iconst 1, 1) := by decide +kernel
theorem dX11_carried_13 : decode cX11_carried 13 = .ok (.iand, 1) := by decide +kernel
theorem dX11_carried_14 : decode cX11_carried 14 = .ok (.ifCond .ne 7, 3) := by decide +kernel
theorem dX11_carried_17 : decode cX11_carried 17 = .ok (.iconst 1, 1) := by decide +kernel
theorem dX11_carried_18 : decode cX11_carried 18 = .ok (.goto 4, 3) := by decide +kernel
theorem dX11_carried_21 : decode cX11_carried 21 = .ok (.iconst 0, 1) := by decide +kernel
theorem dX11_carried_22 : decode cX11_carried 22 = .ok (.istore_n 2, 1) := by decide +kernel
theorem dX11_carried_23 : decode cX11_carried 23 = .ok (.iload_n 1, 1) := by decide +kernel
theorem dX11_carried_24 : decode cX11_carried 24 = .ok (.iconst 2, 1) := by decide +kernel
theorem dX11_carried_25 : decode cX11_carried 25 = .ok (.if_icmp .lt 9, 3) := by decide +kernel
theorem dX11_carried_28 : decode cX11_carried 28 = .ok (.aload_n 0, 1) := by decide +kernel
theorem dX11_carried_29 : decode cX11_carried 29 = .ok (.iload_n 2, 1) := by decide +kernel
theorem dX11_carried_30 : decode cX11_carried 30 = .ok (.invokevirtual 361, 3) := by decide +kernel
theorem dX11_carried_33 : decode cX11_carried 33 = .ok (.ireturn, 1) := by decide +kernel
theorem dX11_carried_34 : decode cX11_carried 34 = .ok (.aload_n 0, 1) := by decide +kernel
theorem dX11_carried_35 : decode cX11_carried 35 = .ok (.invokevirtual 321, 3) := by decide +kernel
theorem dX11_carried_38 : decode cX11_carried 38 = .ok (.aload_n 0, 1) := by decide +kernel
theorem dX11_carried_39 : decode cX11_carried 39 = .ok (.iload_n 2, 1) := by decide +kernel
theorem dX11_carried_40 : decode cX11_carried 40 = .ok (.invokevirtual 365, 3) := by decide +kernel
theorem dX11_carried_43 : decode cX11_carried 43 = .ok (.ireturn, 1) := by decide +kernel
theorem dX11_claimsOn_0 : decode cX11_claimsOn 0 = .ok (.iconst 0, 1) := by decide +kernel
theorem dX11_claimsOn_1 : decode cX11_claimsOn 1 = .ok (.istore_n 2, 1) := by decide +kernel
theorem dX11_claimsOn_2 : decode cX11_claimsOn 2 = .ok (.iconst 0, 1) := by decide +kernel
theorem dX11_claimsOn_3 : decode cX11_claimsOn 3 = .ok (.istore_n 3, 1) := by decide +kernel
theorem dX11_claimsOn_4 : decode cX11_claimsOn 4 = .ok (.iload_n 3, 1) := by decide +kernel
theorem dX11_claimsOn_5 : decode cX11_claimsOn 5 = .ok (.aload_n 0, 1) := by decide +kernel
theorem dX11_claimsOn_6 : decode cX11_claimsOn 6 = .ok (.getfield 29, 3) := by decide +kernel
theorem dX11_claimsOn_9 : decode cX11_claimsOn 9 = .ok (.getfield 273, 3) := by decide +kernel
theorem dX11_claimsOn_12 : decode cX11_claimsOn 12 = .ok (.if_icmp .ge 50, 3) := by decide +kernel
theorem dX11_claimsOn_15 : decode cX11_claimsOn 15 = .ok (.aload_n 0, 1) := by decide +kernel
theorem dX11_claimsOn_16 : decode cX11_claimsOn 16 = .ok (.getfield 19, 3) := by decide +kernel
theorem dX11_claimsOn_19 : decode cX11_claimsOn 19 = .ok (.aload_n 0, 1) := by decide +kernel
theorem dX11_claimsOn_20 : decode cX11_claimsOn 20 = .ok (.getfield 29, 3) := by decide +kernel
theorem dX11_claimsOn_23 : decode cX11_claimsOn 23 = .ok (.getfield 274, 3) := by decide +kernel
theorem dX11_claimsOn_26 : decode cX11_claimsOn 26 = .ok (.iload_n 3, 1) := by decide +kernel
theorem dX11_claimsOn_27 : decode cX11_claimsOn 27 = .ok (.iaload, 1) := by decide +kernel
theorem dX11_claimsOn_28 : decode cX11_claimsOn 28 = .ok (.aload_n 0, 1) := by decide +kernel
theorem dX11_claimsOn_29 : decode cX11_claimsOn 29 = .ok (.getfield 29, 3) := by decide +kernel
theorem dX11_claimsOn_32 : decode cX11_claimsOn 32 = .ok (.getfield 277, 3) := by decide +kernel
theorem dX11_claimsOn_35 : decode cX11_claimsOn 35 = .ok (.iload_n 3, 1) := by decide +kernel
theorem dX11_claimsOn_36 : decode cX11_claimsOn 36 = .ok (.iaload, 1) := by decide +kernel
theorem dX11_claimsOn_37 : decode cX11_claimsOn 37 = .ok (.invokevirtual 368, 3) := by decide +kernel
theorem dX11_claimsOn_40 : decode cX11_claimsOn 40 = .ok (.iload_n 1, 1) := by decide +kernel
theorem dX11_claimsOn_41 : decode cX11_claimsOn 41 = .ok (.if_icmp .ne 15, 3) := by decide +kernel
theorem dX11_claimsOn_44 : decode cX11_claimsOn 44 = .ok (.iload_n 2, 1) := by decide +kernel
theorem dX11_claimsOn_45 : decode cX11_claimsOn 45 = .ok (.aload_n 0, 1) := by decide +kernel
theorem dX11_claimsOn_46 : decode cX11_claimsOn 46 = .ok (.getfield 29, 3) := by decide +kernel
theorem dX11_claimsOn_49 : decode cX11_claimsOn 49 = .ok (.getfield 311, 3) := by decide +kernel
theorem dX11_claimsOn_52 : decode cX11_claimsOn 52 = .ok (.iload_n 3, 1) := by decide +kernel
theorem dX11_claimsOn_53 : decode cX11_claimsOn 53 = .ok (.iaload, 1) := by decide +kernel
theorem dX11_claimsOn_54 : decode cX11_claimsOn 54 = .ok (.iadd, 1) := by decide +kernel
theorem dX11_claimsOn_55 : decode cX11_claimsOn 55 = .ok (.istore_n 2, 1) := by decide +kernel
theorem dX11_claimsOn_56 : decode cX11_claimsOn 56 = .ok (.iinc 3 1, 3) := by decide +kernel
theorem dX11_claimsOn_59 : decode cX11_claimsOn 59 = .ok (.goto (-55), 3) := by decide +kernel
theorem dX11_claimsOn_62 : decode cX11_claimsOn 62 = .ok (.iload_n 2, 1) := by decide +kernel
theorem dX11_claimsOn_63 : decode cX11_claimsOn 63 = .ok (.ireturn, 1) := by decide +kernel
theorem dX11_reliefOn_0 : decode cX11_reliefOn 0 = .ok (.iconst 0, 1) := by decide +kernel
theorem dX11_reliefOn_1 : decode cX11_reliefOn 1 = .ok (.istore_n 2, 1) := by decide +kernel
theorem dX11_reliefOn_2 : decode cX11_reliefOn 2 = .ok (.iconst 0, 1) := by decide +kernel
theorem dX11_reliefOn_3 : decode cX11_reliefOn 3 = .ok (.istore_n 3, 1) := by decide +kernel
theorem dX11_reliefOn_4 : decode cX11_reliefOn 4 = .ok (.iload_n 3, 1) := by decide +kernel
theorem dX11_reliefOn_5 : decode cX11_reliefOn 5 = .ok (.aload_n 0, 1) := by decide +kernel
theorem dX11_reliefOn_6 : decode cX11_reliefOn 6 = .ok (.getfield 19, 3) := by decide +kernel
theorem dX11_reliefOn_9 : decode cX11_reliefOn 9 = .ok (.getfield 324, 3) := by decide +kernel
theorem dX11_reliefOn_12 : decode cX11_reliefOn 12 = .ok (.if_icmp .ge 62, 3) := by decide +kernel
theorem dX11_reliefOn_15 : decode cX11_reliefOn 15 = .ok (.iconst 0, 1) := by decide +kernel
theorem dX11_reliefOn_16 : decode cX11_reliefOn 16 = .ok (.istore 4, 2) := by decide +kernel
theorem dX11_reliefOn_18 : decode cX11_reliefOn 18 = .ok (.iload 4, 2) := by decide +kernel
theorem dX11_reliefOn_20 : decode cX11_reliefOn 20 = .ok (.aload_n 0, 1) := by decide +kernel
theorem dX11_reliefOn_21 : decode cX11_reliefOn 21 = .ok (.getfield 19, 3) := by decide +kernel
theorem dX11_reliefOn_24 : decode cX11_reliefOn 24 = .ok (.getfield 324, 3) := by decide +kernel
theorem dX11_reliefOn_27 : decode cX11_reliefOn 27 = .ok (.if_icmp .ge 41, 3) := by decide +kernel
theorem dX11_reliefOn_30 : decode cX11_reliefOn 30 = .ok (.aload_n 0, 1) := by decide +kernel
theorem dX11_reliefOn_31 : decode cX11_reliefOn 31 = .ok (.getfield 19, 3) := by decide +kernel
theorem dX11_reliefOn_34 : decode cX11_reliefOn 34 = .ok (.iload_n 3, 1) := by decide +kernel
theorem dX11_reliefOn_35 : decode cX11_reliefOn 35 = .ok (.iload 4, 2) := by decide +kernel
theorem dX11_reliefOn_37 : decode cX11_reliefOn 37 = .ok (.invokevirtual 368, 3) := by decide +kernel
theorem dX11_reliefOn_40 : decode cX11_reliefOn 40 = .ok (.iload_n 1, 1) := by decide +kernel
theorem dX11_reliefOn_41 : decode cX11_reliefOn 41 = .ok (.if_icmp .ne 21, 3) := by decide +kernel
theorem dX11_reliefOn_44 : decode cX11_reliefOn 44 = .ok (.iload_n 2, 1) := by decide +kernel
theorem dX11_reliefOn_45 : decode cX11_reliefOn 45 = .ok (.aload_n 0, 1) := by decide +kernel
theorem dX11_reliefOn_46 : decode cX11_reliefOn 46 = .ok (.getfield 71, 3) := by decide +kernel
theorem dX11_reliefOn_49 : decode cX11_reliefOn 49 = .ok (.getfield 327, 3) := by decide +kernel
theorem dX11_reliefOn_52 : decode cX11_reliefOn 52 = .ok (.iload_n 3, 1) := by decide +kernel
theorem dX11_reliefOn_53 : decode cX11_reliefOn 53 = .ok (.bipush 12, 2) := by decide +kernel
theorem dX11_reliefOn_55 : decode cX11_reliefOn 55 = .ok (.imul, 1) := by decide +kernel
theorem dX11_reliefOn_56 : decode cX11_reliefOn 56 = .ok (.iload 4, 2) := by decide +kernel
theorem dX11_reliefOn_58 : decode cX11_reliefOn 58 = .ok (.iadd, 1) := by decide +kernel
theorem dX11_reliefOn_59 : decode cX11_reliefOn 59 = .ok (.iaload, 1) := by decide +kernel
theorem dX11_reliefOn_60 : decode cX11_reliefOn 60 = .ok (.iadd, 1) := by decide +kernel
theorem dX11_reliefOn_61 : decode cX11_reliefOn 61 = .ok (.istore_n 2, 1) := by decide +kernel
theorem dX11_reliefOn_62 : decode cX11_reliefOn 62 = .ok (.iinc 4 1, 3) := by decide +kernel
theorem dX11_reliefOn_65 : decode cX11_reliefOn 65 = .ok (.goto (-47), 3) := by decide +kernel
theorem dX11_reliefOn_68 : decode cX11_reliefOn 68 = .ok (.iinc 3 1, 3) := by decide +kernel
theorem dX11_reliefOn_71 : decode cX11_reliefOn 71 = .ok (.goto (-67), 3) := by decide +kernel
theorem dX11_reliefOn_74 : decode cX11_reliefOn 74 = .ok (.iload_n 2, 1) := by decide +kernel
theorem dX11_reliefOn_75 : decode cX11_reliefOn 75 = .ok (.ireturn, 1) := by decide +kernel
theorem dX11_pays_0 : decode cX11_pays 0 = .ok (.aload_n 0, 1) := by decide +kernel
theorem dX11_pays_1 : decode cX11_pays 1 = .ok (.getfield 19, 3) := by decide +kernel
theorem dX11_pays_4 : decode cX11_pays 4 = .ok (.iload_n 1, 1) := by decide +kernel
theorem dX11_pays_5 : decode cX11_pays 5 = .ok (.invokevirtual 140, 3) := by decide +kernel
theorem dX11_pays_8 : decode cX11_pays 8 = .ok (.ifCond .ne 5, 3) := by decide +kernel
theorem dX11_pays_11 : decode cX11_pays 11 = .ok (.iconst (-1), 1) := by decide +kernel
theorem dX11_pays_12 : decode cX11_pays 12 = .ok (.ireturn, 1) := by decide +kernel
theorem dX11_pays_13 : decode cX11_pays 13 = .ok (.aload_n 0, 1) := by decide +kernel
theorem dX11_pays_14 : decode cX11_pays 14 = .ok (.invokevirtual 321, 3) := by decide +kernel
theorem dX11_pays_17 : decode cX11_pays 17 = .ok (.iload_n 2, 1) := by decide +kernel
theorem dX11_pays_18 : decode cX11_pays 18 = .ok (.tableswitch 58 0 3 #[30, 37, 44, 51], 30) := by decide +kernel
theorem dX11_pays_48 : decode cX11_pays 48 = .ok (.aload_n 0, 1) := by decide +kernel
theorem dX11_pays_49 : decode cX11_pays 49 = .ok (.iload_n 1, 1) := by decide +kernel
theorem dX11_pays_50 : decode cX11_pays 50 = .ok (.iconst (-1), 1) := by decide +kernel
theorem dX11_pays_51 : decode cX11_pays 51 = .ok (.invokevirtual 371, 3) := by decide +kernel
theorem dX11_pays_54 : decode cX11_pays 54 = .ok (.ireturn, 1) := by decide +kernel
theorem dX11_pays_55 : decode cX11_pays 55 = .ok (.aload_n 0, 1) := by decide +kernel
theorem dX11_pays_56 : decode cX11_pays 56 = .ok (.iconst (-1), 1) := by decide +kernel
theorem dX11_pays_57 : decode cX11_pays 57 = .ok (.iload_n 1, 1) := by decide +kernel
theorem dX11_pays_58 : decode cX11_pays 58 = .ok (.invokevirtual 371, 3) := by decide +kernel
theorem dX11_pays_61 : decode cX11_pays 61 = .ok (.ireturn, 1) := by decide +kernel
theorem dX11_pays_62 : decode cX11_pays 62 = .ok (.aload_n 0, 1) := by decide +kernel
theorem dX11_pays_63 : decode cX11_pays 63 = .ok (.iload_n 1, 1) := by decide +kernel
theorem dX11_pays_64 : decode cX11_pays 64 = .ok (.iconst (-1), 1) := by decide +kernel
theorem dX11_pays_65 : decode cX11_pays 65 = .ok (.invokevirtual 374, 3) := by decide +kernel
theorem dX11_pays_68 : decode cX11_pays 68 = .ok (.ireturn, 1) := by decide +kernel
theorem dX11_pays_69 : decode cX11_pays 69 = .ok (.aload_n 0, 1) := by decide +kernel
theorem dX11_pays_70 : decode cX11_pays 70 = .ok (.iconst (-1), 1) := by decide +kernel
theorem dX11_pays_71 : decode cX11_pays 71 = .ok (.iload_n 1, 1) := by decide +kernel
theorem dX11_pays_72 : decode cX11_pays 72 = .ok (.invokevirtual 374, 3) := by decide +kernel
theorem dX11_pays_75 : decode cX11_pays 75 = .ok (.ireturn, 1) := by decide +kernel
theorem dX11_pays_76 : decode cX11_pays 76 = .ok (.iconst (-1), 1) := by decide +kernel
theorem dX11_pays_77 : decode cX11_pays 77 = .ok (.ireturn, 1) := by decide +kernel
theorem dX11_balance_0 : decode cX11_balance 0 = .ok (.aload_n 0, 1) := by decide +kernel
theorem dX11_balance_1 : decode cX11_balance 1 = .ok (.getfield 19, 3) := by decide +kernel
theorem dX11_balance_4 : decode cX11_balance 4 = .ok (.iload_n 1, 1) := by decide +kernel
theorem dX11_balance_5 : decode cX11_balance 5 = .ok (.invokevirtual 140, 3) := by decide +kernel
theorem dX11_balance_8 : decode cX11_balance 8 = .ok (.ifCond .ne 7, 3) := by decide +kernel
theorem dX11_balance_11 : decode cX11_balance 11 = .ok (.ldc_w 377, 3) := by decide +kernel
theorem dX11_balance_14 : decode cX11_balance 14 = .ok (.ireturn, 1) := by decide +kernel
theorem dX11_balance_15 : decode cX11_balance 15 = .ok (.aload_n 0, 1) := by decide +kernel
theorem dX11_balance_16 : decode cX11_balance 16 = .ok (.invokevirtual 321, 3) := by decide +kernel
theorem dX11_balance_19 : decode cX11_balance 19 = .ok (.aload_n 0, 1) := by decide +kernel
theorem dX11_balance_20 : decode cX11_balance 20 = .ok (.iconst (-1), 1) := by decide +kernel
theorem dX11_balance_21 : decode cX11_balance 21 = .ok (.iload_n 1, 1) := by decide +kernel
theorem dX11_balance_22 : decode cX11_balance 22 = .ok (.invokevirtual 378, 3) := by decide +kernel
theorem dX11_balance_25 : decode cX11_balance 25 = .ok (.aload_n 0, 1) := by decide +kernel
theorem dX11_balance_26 : decode cX11_balance 26 = .ok (.iload_n 1, 1) := by decide +kernel
theorem dX11_balance_27 : decode cX11_balance 27 = .ok (.iconst (-1), 1) := by decide +kernel
theorem dX11_balance_28 : decode cX11_balance 28 = .ok (.invokevirtual 378, 3) := by decide +kernel
theorem dX11_balance_31 : decode cX11_balance 31 = .ok (.isub, 1) := by decide +kernel
theorem dX11_balance_32 : decode cX11_balance 32 = .ok (.ireturn, 1) := by decide +kernel
theorem dX11_owes_0 : decode cX11_owes 0 = .ok (.aload_n 0, 1) := by decide +kernel
theorem dX11_owes_1 : decode cX11_owes 1 = .ok (.iload_n 1, 1) := by decide +kernel
theorem dX11_owes_2 : decode cX11_owes 2 = .ok (.iload_n 2, 1) := by decide +kernel
theorem dX11_owes_3 : decode cX11_owes 3 = .ok (.invokevirtual 188, 3) := by decide +kernel
theorem dX11_owes_6 : decode cX11_owes 6 = .ok (.ifCond .ne 7, 3) := by decide +kernel
theorem dX11_owes_9 : decode cX11_owes 9 = .ok (.ldc_w 377, 3) := by decide +kernel
theorem dX11_owes_12 : decode cX11_owes 12 = .ok (.ireturn, 1) := by decide +kernel
theorem dX11_owes_13 : decode cX11_owes 13 = .ok (.aload_n 0, 1) := by decide +kernel
theorem dX11_owes_14 : decode cX11_owes 14 = .ok (.invokevirtual 321, 3) := by decide +kernel
theorem dX11_owes_17 : decode cX11_owes 17 = .ok (.aload_n 0, 1) := by decide +kernel
theorem dX11_owes_18 : decode cX11_owes 18 = .ok (.iload_n 1, 1) := by decide +kernel
theorem dX11_owes_19 : decode cX11_owes 19 = .ok (.iload_n 2, 1) := by decide +kernel
theorem dX11_owes_20 : decode cX11_owes 20 = .ok (.invokevirtual 378, 3) := by decide +kernel
theorem dX11_owes_23 : decode cX11_owes 23 = .ok (.aload_n 0, 1) := by decide +kernel
theorem dX11_owes_24 : decode cX11_owes 24 = .ok (.iload_n 2, 1) := by decide +kernel
theorem dX11_owes_25 : decode cX11_owes 25 = .ok (.iload_n 1, 1) := by decide +kernel
theorem dX11_owes_26 : decode cX11_owes 26 = .ok (.invokevirtual 378, 3) := by decide +kernel
theorem dX11_owes_29 : decode cX11_owes 29 = .ok (.isub, 1) := by decide +kernel
theorem dX11_owes_30 : decode cX11_owes 30 = .ok (.ireturn, 1) := by decide +kernel
theorem dX11_settles_0 : decode cX11_settles 0 = .ok (.aload_n 0, 1) := by decide +kernel
theorem dX11_settles_1 : decode cX11_settles 1 = .ok (.invokevirtual 381, 3) := by decide +kernel
theorem dX11_settles_4 : decode cX11_settles 4 = .ok (.aload_n 0, 1) := by decide +kernel
theorem dX11_settles_5 : decode cX11_settles 5 = .ok (.getfield 78, 3) := by decide +kernel
theorem dX11_settles_8 : decode cX11_settles 8 = .ok (.getfield 384, 3) := by decide +kernel
theorem dX11_settles_11 : decode cX11_settles 11 = .ok (.ireturn, 1) := by decide +kernel
theorem dX11_settling_0 : decode cX11_settling 0 = .ok (.iload_n 1, 1) := by decide +kernel
theorem dX11_settling_1 : decode cX11_settling 1 = .ok (.ifCond .lt 12, 3) := by decide +kernel
theorem dX11_settling_4 : decode cX11_settling 4 = .ok (.iload_n 2, 1) := by decide +kernel
theorem dX11_settling_5 : decode cX11_settling 5 = .ok (.ifCond .lt 8, 3) := by decide +kernel
theorem dX11_settling_8 : decode cX11_settling 8 = .ok (.iload_n 2, 1) := by decide +kernel
theorem dX11_settling_9 : decode cX11_settling 9 = .ok (.iconst 2, 1) := by decide +kernel
theorem dX11_settling_10 : decode cX11_settling 10 = .ok (.if_icmp .le 5, 3) := by decide +kernel
theorem dX11_settling_13 : decode cX11_settling 13 = .ok (.iconst (-1), 1) := by decide +kernel
theorem dX11_settling_14 : decode cX11_settling 14 = .ok (.ireturn, 1) := by decide +kernel
theorem dX11_settling_15 : decode cX11_settling 15 = .ok (.aload_n 0, 1) := by decide +kernel
theorem dX11_settling_16 : decode cX11_settling 16 = .ok (.invokevirtual 381, 3) := by decide +kernel
theorem dX11_settling_19 : decode cX11_settling 19 = .ok (.iload_n 1, 1) := by decide +kernel
theorem dX11_settling_20 : decode cX11_settling 20 = .ok (.aload_n 0, 1) := by decide +kernel
theorem dX11_settling_21 : decode cX11_settling 21 = .ok (.getfield 78, 3) := by decide +kernel
theorem dX11_settling_24 : decode cX11_settling 24 = .ok (.getfield 384, 3) := by decide +kernel
theorem dX11_settling_27 : decode cX11_settling 27 = .ok (.if_icmp .lt 6, 3) := by decide +kernel
theorem dX11_settling_30 : decode cX11_settling 30 = .ok (.bipush (-2), 2) := by decide +kernel
theorem dX11_settling_32 : decode cX11_settling 32 = .ok (.ireturn, 1) := by decide +kernel
theorem dX11_settling_33 : decode cX11_settling 33 = .ok (.iload_n 2, 1) := by decide +kernel
theorem dX11_settling_34 : decode cX11_settling 34 = .ok (.ifCond .ne 13, 3) := by decide +kernel
theorem dX11_settling_37 : decode cX11_settling 37 = .ok (.aload_n 0, 1) := by decide +kernel
theorem dX11_settling_38 : decode cX11_settling 38 = .ok (.getfield 78, 3) := by decide +kernel
theorem dX11_settling_41 : decode cX11_settling 41 = .ok (.getfield 385, 3) := by decide +kernel
theorem dX11_settling_44 : decode cX11_settling 44 = .ok (.iload_n 1, 1) := by decide +kernel
theorem dX11_settling_45 : decode cX11_settling 45 = .ok (.iaload, 1) := by decide +kernel
theorem dX11_settling_46 : decode cX11_settling 46 = .ok (.ireturn, 1) := by decide +kernel
theorem dX11_settling_47 : decode cX11_settling 47 = .ok (.iload_n 2, 1) := by decide +kernel
theorem dX11_settling_48 : decode cX11_settling 48 = .ok (.iconst 1, 1) := by decide +kernel
theorem dX11_settling_49 : decode cX11_settling 49 = .ok (.if_icmp .ne 15, 3) := by decide +kernel
theorem dX11_settling_52 : decode cX11_settling 52 = .ok (.aload_n 0, 1) := by decide +kernel
theorem dX11_settling_53 : decode cX11_settling 53 = .ok (.getfield 78, 3) := by decide +kernel
theorem dX11_settling_56 : decode cX11_settling 56 = .ok (.getfield 388, 3) := by decide +kernel
theorem dX11_settling_59 : decode cX11_settling 59 = .ok (.iload_n 1, 1) := by decide +kernel
theorem dX11_settling_60 : decode cX11_settling 60 = .ok (.iaload, 1) := by decide +kernel
theorem dX11_settling_61 : decode cX11_settling 61 = .ok (.goto 12, 3) := by decide +kernel
theorem dX11_settling_64 : decode cX11_settling 64 = .ok (.aload_n 0, 1) := by decide +kernel
theorem dX11_settling_65 : decode cX11_settling 65 = .ok (.getfield 78, 3) := by decide +kernel
theorem dX11_settling_68 : decode cX11_settling 68 = .ok (.getfield 391, 3) := by decide +kernel
theorem dX11_settling_71 : decode cX11_settling 71 = .ok (.iload_n 1, 1) := by decide +kernel
theorem dX11_settling_72 : decode cX11_settling 72 = .ok (.iaload, 1) := by decide +kernel
theorem dX11_settling_73 : decode cX11_settling 73 = .ok (.ireturn, 1) := by decide +kernel
theorem dX11_settle_0 : decode cX11_settle 0 = .ok (.aload_n 0, 1) := by decide +kernel
theorem dX11_settle_1 : decode cX11_settle 1 = .ok (.invokevirtual 321, 3) := by decide +kernel
theorem dX11_settle_4 : decode cX11_settle 4 = .ok (.iconst 0, 1) := by decide +kernel
theorem dX11_settle_5 : decode cX11_settle 5 = .ok (.istore_n 1, 1) := by decide +kernel
theorem dX11_settle_6 : decode cX11_settle 6 = .ok (.iload_n 1, 1) := by decide +kernel
theorem dX11_settle_7 : decode cX11_settle 7 = .ok (.aload_n 0, 1) := by decide +kernel
theorem dX11_settle_8 : decode cX11_settle 8 = .ok (.getfield 19, 3) := by decide +kernel
theorem dX11_settle_11 : decode cX11_settle 11 = .ok (.getfield 392, 3) := by decide +kernel
theorem dX11_settle_14 : decode cX11_settle 14 = .ok (.if_icmp .ge 31, 3) := by decide +kernel
theorem dX11_settle_17 : decode cX11_settle 17 = .ok (.aload_n 0, 1) := by decide +kernel
theorem dX11_settle_18 : decode cX11_settle 18 = .ok (.getfield 78, 3) := by decide +kernel
theorem dX11_settle_21 : decode cX11_settle 21 = .ok (.getfield 395, 3) := by decide +kernel
theorem dX11_settle_24 : decode cX11_settle 24 = .ok (.iload_n 1, 1) := by decide +kernel
theorem dX11_settle_25 : decode cX11_settle 25 = .ok (.aload_n 0, 1) := by decide +kernel
theorem dX11_settle_26 : decode cX11_settle 26 = .ok (.iconst (-1), 1) := by decide +kernel
theorem dX11_settle_27 : decode cX11_settle 27 = .ok (.iload_n 1, 1) := by decide +kernel
theorem dX11_settle_28 : decode cX11_settle 28 = .ok (.invokevirtual 378, 3) := by decide +kernel
theorem dX11_settle_31 : decode cX11_settle 31 = .ok (.aload_n 0, 1) := by decide +kernel
theorem dX11_settle_32 : decode cX11_settle 32 = .ok (.iload_n 1, 1) := by decide +kernel
theorem dX11_settle_33 : decode cX11_settle 33 = .ok (.iconst (-1), 1) := by decide +kernel
theorem dX11_settle_34 : decode cX11_settle 34 = .ok (.invokevirtual 378, 3) := by decide +kernel
theorem dX11_settle_37 : decode cX11_settle 37 = .ok (.isub, 1) := by decide +kernel
theorem dX11_settle_38 : decode cX11_settle 38 = .ok (.iastore, 1) := by decide +kernel
theorem dX11_settle_39 : decode cX11_settle 39 = .ok (.iinc 1 1, 3) := by decide +kernel
theorem dX11_settle_42 : decode cX11_settle 42 = .ok (.goto (-36), 3) := by decide +kernel
theorem dX11_settle_45 : decode cX11_settle 45 = .ok (.aload_n 0, 1) := by decide +kernel
theorem dX11_settle_46 : decode cX11_settle 46 = .ok (.getfield 78, 3) := by decide +kernel
theorem dX11_settle_49 : decode cX11_settle 49 = .ok (.aload_n 0, 1) := by decide +kernel
theorem dX11_settle_50 : decode cX11_settle 50 = .ok (.getfield 19, 3) := by decide +kernel
theorem dX11_settle_53 : decode cX11_settle 53 = .ok (.getfield 392, 3) := by decide +kernel
theorem dX11_settle_56 : decode cX11_settle 56 = .ok (.invokevirtual 398, 3) := by decide +kernel
theorem dX11_settle_59 : decode cX11_settle 59 = .ok (.return_, 1) := by decide +kernel
theorem dX11_paidInAll_0 : decode cX11_paidInAll 0 = .ok (.aload_n 0, 1) := by decide +kernel
theorem dX11_paidInAll_1 : decode cX11_paidInAll 1 = .ok (.iload_n 1, 1) := by decide +kernel
theorem dX11_paidInAll_2 : decode cX11_paidInAll 2 = .ok (.iload_n 2, 1) := by decide +kernel
theorem dX11_paidInAll_3 : decode cX11_paidInAll 3 = .ok (.invokevirtual 371, 3) := by decide +kernel
theorem dX11_paidInAll_6 : decode cX11_paidInAll 6 = .ok (.aload_n 0, 1) := by decide +kernel
theorem dX11_paidInAll_7 : decode cX11_paidInAll 7 = .ok (.iload_n 1, 1) := by decide +kernel
theorem dX11_paidInAll_8 : decode cX11_paidInAll 8 = .ok (.iload_n 2, 1) := by decide +kernel
theorem dX11_paidInAll_9 : decode cX11_paidInAll 9 = .ok (.invokevirtual 374, 3) := by decide +kernel
theorem dX11_paidInAll_12 : decode cX11_paidInAll 12 = .ok (.iadd, 1) := by decide +kernel
theorem dX11_paidInAll_13 : decode cX11_paidInAll 13 = .ok (.ireturn, 1) := by decide +kernel
theorem dX11_paidForRelief_0 : decode cX11_paidForRelief 0 = .ok (.iconst 0, 1) := by decide +kernel
theorem dX11_paidForRelief_1 : decode cX11_paidForRelief 1 = .ok (.istore_n 3, 1) := by decide +kernel
theorem dX11_paidForRelief_2 : decode cX11_paidForRelief 2 = .ok (.iconst 0, 1) := by decide +kernel
theorem dX11_paidForRelief_3 : decode cX11_paidForRelief 3 = .ok (.istore 4, 2) := by decide +kernel
theorem dX11_paidForRelief_5 : decode cX11_paidForRelief 5 = .ok (.iload 4, 2) := by decide +kernel
theorem dX11_paidForRelief_7 : decode cX11_paidForRelief 7 = .ok (.aload_n 0, 1) := by decide +kernel
theorem dX11_paidForRelief_8 : decode cX11_paidForRelief 8 = .ok (.getfield 19, 3) := by decide +kernel
theorem dX11_paidForRelief_11 : decode cX11_paidForRelief 11 = .ok (.getfield 324, 3) := by decide +kernel
theorem dX11_paidForRelief_14 : decode cX11_paidForRelief 14 = .ok (.if_icmp .ge 85, 3) := by decide +kernel
theorem dX11_paidForRelief_17 : decode cX11_paidForRelief 17 = .ok (.iconst 0, 1) := by decide +kernel
theorem dX11_paidForRelief_18 : decode cX11_paidForRelief 18 = .ok (.istore 5, 2) := by decide +kernel
theorem dX11_paidForRelief_20 : decode cX11_paidForRelief 20 = .ok (.iload 5, 2) := by decide +kernel
theorem dX11_paidForRelief_22 : decode cX11_paidForRelief 22 = .ok (.aload_n 0, 1) := by decide +kernel
theorem dX11_paidForRelief_23 : decode cX11_paidForRelief 23 = .ok (.getfield 19, 3) := by decide +kernel
theorem dX11_paidForRelief_26 : decode cX11_paidForRelief 26 = .ok (.getfield 324, 3) := by decide +kernel
theorem dX11_paidForRelief_29 : decode cX11_paidForRelief 29 = .ok (.if_icmp .ge 64, 3) := by decide +kernel
theorem dX11_paidForRelief_32 : decode cX11_paidForRelief 32 = .ok (.aload_n 0, 1) := by decide +kernel
theorem dX11_paidForRelief_33 : decode cX11_paidForRelief 33 = .ok (.getfield 71, 3) := by decide +kernel
theorem dX11_paidForRelief_36 : decode cX11_paidForRelief 36 = .ok (.getfield 327, 3) := by decide +kernel
theorem dX11_paidForRelief_39 : decode cX11_paidForRelief 39 = .ok (.iload 4, 2) := by decide +kernel
theorem dX11_paidForRelief_41 : decode cX11_paidForRelief 41 = .ok (.bipush 12, 2) := by decide +kernel
theorem dX11_paidForRelief_43 : decode cX11_paidForRelief 43 = .ok (.imul, 1) := by decide +kernel
theorem dX11_paidForRelief_44 : decode cX11_paidForRelief 44 = .ok (.iload 5, 2) := by decide +kernel
theorem dX11_paidForRelief_46 : decode cX11_paidForRelief 46 = .ok (.iadd, 1) := by decide +kernel
theorem dX11_paidForRelief_47 : decode cX11_paidForRelief 47 = .ok (.iaload, 1) := by decide +kernel
theorem dX11_paidForRelief_48 : decode cX11_paidForRelief 48 = .ok (.istore 6, 2) := by decide +kernel
theorem dX11_paidForRelief_50 : decode cX11_paidForRelief 50 = .ok (.iload 6, 2) := by decide +kernel
theorem dX11_paidForRelief_52 : decode cX11_paidForRelief 52 = .ok (.ifCond .le 35, 3) := by decide +kernel
theorem dX11_paidForRelief_55 : decode cX11_paidForRelief 55 = .ok (.aload_n 0, 1) := by decide +kernel
theorem dX11_paidForRelief_56 : decode cX11_paidForRelief 56 = .ok (.getfield 19, 3) := by decide +kernel
theorem dX11_paidForRelief_59 : decode cX11_paidForRelief 59 = .ok (.iload 4, 2) := by decide +kernel
theorem dX11_paidForRelief_61 : decode cX11_paidForRelief 61 = .ok (.iload 5, 2) := by decide +kernel
theorem dX11_paidForRelief_63 : decode cX11_paidForRelief 63 = .ok (.iload_n 1, 1) := by decide +kernel
theorem dX11_paidForRelief_64 : decode cX11_paidForRelief 64 = .ok (.iload_n 2, 1) := by decide +kernel
theorem dX11_paidForRelief_65 : decode cX11_paidForRelief 65 = .ok (.invokevirtual 401, 3) := by decide +kernel
theorem dX11_paidForRelief_68 : decode cX11_paidForRelief 68 = .ok (.ifCond .eq 19, 3) := by decide +kernel
theorem dX11_paidForRelief_71 : decode cX11_paidForRelief 71 = .ok (.iload_n 3, 1) := by decide +kernel
theorem dX11_paidForRelief_72 : decode cX11_paidForRelief 72 = .ok (.aload_n 0, 1) := by decide +kernel
theorem dX11_paidForRelief_73 : decode cX11_paidForRelief 73 = .ok (.getfield 19, 3) := by decide +kernel
theorem dX11_paidForRelief_76 : decode cX11_paidForRelief 76 = .ok (.iload 4, 2) := by decide +kernel
theorem dX11_paidForRelief_78 : decode cX11_paidForRelief 78 = .ok (.iload 5, 2) := by decide +kernel
theorem dX11_paidForRelief_80 : decode cX11_paidForRelief 80 = .ok (.iload 6, 2) := by decide +kernel
theorem dX11_paidForRelief_82 : decode cX11_paidForRelief 82 = .ok (.invokevirtual 317, 3) := by decide +kernel
theorem dX11_paidForRelief_85 : decode cX11_paidForRelief 85 = .ok (.iadd, 1) := by decide +kernel
theorem dX11_paidForRelief_86 : decode cX11_paidForRelief 86 = .ok (.istore_n 3, 1) := by decide +kernel
theorem dX11_paidForRelief_87 : decode cX11_paidForRelief 87 = .ok (.iinc 5 1, 3) := by decide +kernel
theorem dX11_paidForRelief_90 : decode cX11_paidForRelief 90 = .ok (.goto (-70), 3) := by decide +kernel
theorem dX11_paidForRelief_93 : decode cX11_paidForRelief 93 = .ok (.iinc 4 1, 3) := by decide +kernel
theorem dX11_paidForRelief_96 : decode cX11_paidForRelief 96 = .ok (.goto (-91), 3) := by decide +kernel
theorem dX11_paidForRelief_99 : decode cX11_paidForRelief 99 = .ok (.iload_n 3, 1) := by decide +kernel
theorem dX11_paidForRelief_100 : decode cX11_paidForRelief 100 = .ok (.ireturn, 1) := by decide +kernel
theorem dX11_paidForClaims_0 : decode cX11_paidForClaims 0 = .ok (.iconst 0, 1) := by decide +kernel
theorem dX11_paidForClaims_1 : decode cX11_paidForClaims 1 = .ok (.istore_n 3, 1) := by decide +kernel
theorem dX11_paidForClaims_2 : decode cX11_paidForClaims 2 = .ok (.iconst 0, 1) := by decide +kernel
theorem dX11_paidForClaims_3 : decode cX11_paidForClaims 3 = .ok (.istore 4, 2) := by decide +kernel
theorem dX11_paidForClaims_5 : decode cX11_paidForClaims 5 = .ok (.iload 4, 2) := by decide +kernel
theorem dX11_paidForClaims_7 : decode cX11_paidForClaims 7 = .ok (.aload_n 0, 1) := by decide +kernel
theorem dX11_paidForClaims_8 : decode cX11_paidForClaims 8 = .ok (.getfield 29, 3) := by decide +kernel
theorem dX11_paidForClaims_11 : decode cX11_paidForClaims 11 = .ok (.getfield 273, 3) := by decide +kernel
theorem dX11_paidForClaims_14 : decode cX11_paidForClaims 14 = .ok (.if_icmp .ge 73, 3) := by decide +kernel
theorem dX11_paidForClaims_17 : decode cX11_paidForClaims 17 = .ok (.aload_n 0, 1) := by decide +kernel
theorem dX11_paidForClaims_18 : decode cX11_paidForClaims 18 = .ok (.getfield 29, 3) := by decide +kernel
theorem dX11_paidForClaims_21 : decode cX11_paidForClaims 21 = .ok (.getfield 274, 3) := by decide +kernel
theorem dX11_paidForClaims_24 : decode cX11_paidForClaims 24 = .ok (.iload 4, 2) := by decide +kernel
theorem dX11_paidForClaims_26 : decode cX11_paidForClaims 26 = .ok (.iaload, 1) := by decide +kernel
theorem dX11_paidForClaims_27 : decode cX11_paidForClaims 27 = .ok (.istore 5, 2) := by decide +kernel
theorem dX11_paidForClaims_29 : decode cX11_paidForClaims 29 = .ok (.aload_n 0, 1) := by decide +kernel
theorem dX11_paidForClaims_30 : decode cX11_paidForClaims 30 = .ok (.getfield 29, 3) := by decide +kernel
theorem dX11_paidForClaims_33 : decode cX11_paidForClaims 33 = .ok (.getfield 277, 3) := by decide +kernel
theorem dX11_paidForClaims_36 : decode cX11_paidForClaims 36 = .ok (.iload 4, 2) := by decide +kernel
theorem dX11_paidForClaims_38 : decode cX11_paidForClaims 38 = .ok (.iaload, 1) := by decide +kernel
theorem dX11_paidForClaims_39 : decode cX11_paidForClaims 39 = .ok (.istore 6, 2) := by decide +kernel
theorem dX11_paidForClaims_41 : decode cX11_paidForClaims 41 = .ok (.aload_n 0, 1) := by decide +kernel
theorem dX11_paidForClaims_42 : decode cX11_paidForClaims 42 = .ok (.getfield 19, 3) := by decide +kernel
theorem dX11_paidForClaims_45 : decode cX11_paidForClaims 45 = .ok (.iload 5, 2) := by decide +kernel
theorem dX11_paidForClaims_47 : decode cX11_paidForClaims 47 = .ok (.iload 6, 2) := by decide +kernel
theorem dX11_paidForClaims_49 : decode cX11_paidForClaims 49 = .ok (.iload_n 1, 1) := by decide +kernel
theorem dX11_paidForClaims_50 : decode cX11_paidForClaims 50 = .ok (.iload_n 2, 1) := by decide +kernel
theorem dX11_paidForClaims_51 : decode cX11_paidForClaims 51 = .ok (.invokevirtual 401, 3) := by decide +kernel
theorem dX11_paidForClaims_54 : decode cX11_paidForClaims 54 = .ok (.ifCond .eq 27, 3) := by decide +kernel
theorem dX11_paidForClaims_57 : decode cX11_paidForClaims 57 = .ok (.iload_n 3, 1) := by decide +kernel
theorem dX11_paidForClaims_58 : decode cX11_paidForClaims 58 = .ok (.aload_n 0, 1) := by decide +kernel
theorem dX11_paidForClaims_59 : decode cX11_paidForClaims 59 = .ok (.getfield 19, 3) := by decide +kernel
theorem dX11_paidForClaims_62 : decode cX11_paidForClaims 62 = .ok (.iload 5, 2) := by decide +kernel
theorem dX11_paidForClaims_64 : decode cX11_paidForClaims 64 = .ok (.iload 6, 2) := by decide +kernel
theorem dX11_paidForClaims_66 : decode cX11_paidForClaims 66 = .ok (.aload_n 0, 1) := by decide +kernel
theorem dX11_paidForClaims_67 : decode cX11_paidForClaims 67 = .ok (.getfield 29, 3) := by decide +kernel
theorem dX11_paidForClaims_70 : decode cX11_paidForClaims 70 = .ok (.getfield 311, 3) := by decide +kernel
theorem dX11_paidForClaims_73 : decode cX11_paidForClaims 73 = .ok (.iload 4, 2) := by decide +kernel
theorem dX11_paidForClaims_75 : decode cX11_paidForClaims 75 = .ok (.iaload, 1) := by decide +kernel
theorem dX11_paidForClaims_76 : decode cX11_paidForClaims 76 = .ok (.invokevirtual 317, 3) := by decide +kernel
theorem dX11_paidForClaims_79 : decode cX11_paidForClaims 79 = .ok (.iadd, 1) := by decide +kernel
theorem dX11_paidForClaims_80 : decode cX11_paidForClaims 80 = .ok (.istore_n 3, 1) := by decide +kernel
theorem dX11_paidForClaims_81 : decode cX11_paidForClaims 81 = .ok (.iinc 4 1, 3) := by decide +kernel
theorem dX11_paidForClaims_84 : decode cX11_paidForClaims 84 = .ok (.goto (-79), 3) := by decide +kernel
theorem dX11_paidForClaims_87 : decode cX11_paidForClaims 87 = .ok (.iload_n 3, 1) := by decide +kernel
theorem dX11_paidForClaims_88 : decode cX11_paidForClaims 88 = .ok (.ireturn, 1) := by decide +kernel
theorem dX11_tax_0 : decode cX11_tax 0 = .ok (.aload_n 0, 1) := by decide +kernel
theorem dX11_tax_1 : decode cX11_tax 1 = .ok (.getfield 19, 3) := by decide +kernel
theorem dX11_tax_4 : decode cX11_tax 4 = .ok (.iload_n 1, 1) := by decide +kernel
theorem dX11_tax_5 : decode cX11_tax 5 = .ok (.invokevirtual 140, 3) := by decide +kernel
theorem dX11_tax_8 : decode cX11_tax 8 = .ok (.ifCond .ne 5, 3) := by decide +kernel
theorem dX11_tax_11 : decode cX11_tax 11 = .ok (.iconst (-1), 1) := by decide +kernel
theorem dX11_tax_12 : decode cX11_tax 12 = .ok (.ireturn, 1) := by decide +kernel
theorem dX11_tax_13 : decode cX11_tax 13 = .ok (.aload_n 0, 1) := by decide +kernel
theorem dX11_tax_14 : decode cX11_tax 14 = .ok (.invokevirtual 321, 3) := by decide +kernel
theorem dX11_tax_17 : decode cX11_tax 17 = .ok (.iconst 0, 1) := by decide +kernel
theorem dX11_tax_18 : decode cX11_tax 18 = .ok (.istore_n 2, 1) := by decide +kernel
theorem dX11_tax_19 : decode cX11_tax 19 = .ok (.iconst 0, 1) := by decide +kernel
theorem dX11_tax_20 : decode cX11_tax 20 = .ok (.istore_n 3, 1) := by decide +kernel
theorem dX11_tax_21 : decode cX11_tax 21 = .ok (.iload_n 3, 1) := by decide +kernel
theorem dX11_tax_22 : decode cX11_tax 22 = .ok (.aload_n 0, 1) := by decide +kernel
theorem dX11_tax_23 : decode cX11_tax 23 = .ok (.getfield 19, 3) := by decide +kernel
theorem dX11_tax_26 : decode cX11_tax 26 = .ok (.getfield 324, 3) := by decide +kernel
theorem dX11_tax_29 : decode cX11_tax 29 = .ok (.if_icmp .ge 59, 3) := by decide +kernel
theorem dX11_tax_32 : decode cX11_tax 32 = .ok (.aload_n 0, 1) := by decide +kernel
theorem dX11_tax_33 : decode cX11_tax 33 = .ok (.getfield 19, 3) := by decide +kernel
theorem dX11_tax_36 : decode cX11_tax 36 = .ok (.getfield 169, 3) := by decide +kernel
theorem dX11_tax_39 : decode cX11_tax 39 = .ok (.iload_n 3, 1) := by decide +kernel
theorem dX11_tax_40 : decode cX11_tax 40 = .ok (.iaload, 1) := by decide +kernel
theorem dX11_tax_41 : decode cX11_tax 41 = .ok (.iload_n 1, 1) := by decide +kernel
theorem dX11_tax_42 : decode cX11_tax 42 = .ok (.if_icmp .ne 40, 3) := by decide +kernel
theorem dX11_tax_45 : decode cX11_tax 45 = .ok (.aload_n 0, 1) := by decide +kernel
theorem dX11_tax_46 : decode cX11_tax 46 = .ok (.getfield 19, 3) := by decide +kernel
theorem dX11_tax_49 : decode cX11_tax 49 = .ok (.getfield 178, 3) := by decide +kernel
theorem dX11_tax_52 : decode cX11_tax 52 = .ok (.iload_n 3, 1) := by decide +kernel
theorem dX11_tax_53 : decode cX11_tax 53 = .ok (.iaload, 1) := by decide +kernel
theorem dX11_tax_54 : decode cX11_tax 54 = .ok (.ifCond .le 28, 3) := by decide +kernel
theorem dX11_tax_57 : decode cX11_tax 57 = .ok (.iload_n 2, 1) := by decide +kernel
theorem dX11_tax_58 : decode cX11_tax 58 = .ok (.aload_n 0, 1) := by decide +kernel
theorem dX11_tax_59 : decode cX11_tax 59 = .ok (.getfield 71, 3) := by decide +kernel
theorem dX11_tax_62 : decode cX11_tax 62 = .ok (.getfield 352, 3) := by decide +kernel
theorem dX11_tax_65 : decode cX11_tax 65 = .ok (.iload_n 3, 1) := by decide +kernel
theorem dX11_tax_66 : decode cX11_tax 66 = .ok (.iaload, 1) := by decide +kernel
theorem dX11_tax_67 : decode cX11_tax 67 = .ok (.aload_n 0, 1) := by decide +kernel
theorem dX11_tax_68 : decode cX11_tax 68 = .ok (.getfield 19, 3) := by decide +kernel
theorem dX11_tax_71 : decode cX11_tax 71 = .ok (.getfield 154, 3) := by decide +kernel
theorem dX11_tax_74 : decode cX11_tax 74 = .ok (.iload_n 1, 1) := by decide +kernel
theorem dX11_tax_75 : decode cX11_tax 75 = .ok (.iaload, 1) := by decide +kernel
theorem dX11_tax_76 : decode cX11_tax 76 = .ok (.imul, 1) := by decide +kernel
theorem dX11_tax_77 : decode cX11_tax 77 = .ok (.bipush 100, 2) := by decide +kernel
theorem dX11_tax_79 : decode cX11_tax 79 = .ok (.idiv, 1) := by decide +kernel
theorem dX11_tax_80 : decode cX11_tax 80 = .ok (.iadd, 1) := by decide +kernel
theorem dX11_tax_81 : decode cX11_tax 81 = .ok (.istore_n 2, 1) := by decide +kernel
theorem dX11_tax_82 : decode cX11_tax 82 = .ok (.iinc 3 1, 3) := by decide +kernel
theorem dX11_tax_85 : decode cX11_tax 85 = .ok (.goto (-64), 3) := by decide +kernel
theorem dX11_tax_88 : decode cX11_tax 88 = .ok (.iload_n 2, 1) := by decide +kernel
theorem dX11_tax_89 : decode cX11_tax 89 = .ok (.ireturn, 1) := by decide +kernel
theorem dX11_without_0 : decode cX11_without 0 = .ok (.aload_n 0, 1) := by decide +kernel
theorem dX11_without_1 : decode cX11_without 1 = .ok (.getfield 19, 3) := by decide +kernel
theorem dX11_without_4 : decode cX11_without 4 = .ok (.iload_n 1, 1) := by decide +kernel
theorem dX11_without_5 : decode cX11_without 5 = .ok (.invokevirtual 140, 3) := by decide +kernel
theorem dX11_without_8 : decode cX11_without 8 = .ok (.ifCond .ne 5, 3) := by decide +kernel
theorem dX11_without_11 : decode cX11_without 11 = .ok (.iconst (-1), 1) := by decide +kernel
theorem dX11_without_12 : decode cX11_without 12 = .ok (.ireturn, 1) := by decide +kernel
theorem dX11_without_13 : decode cX11_without 13 = .ok (.aload_n 0, 1) := by decide +kernel
theorem dX11_without_14 : decode cX11_without 14 = .ok (.invokevirtual 233, 3) := by decide +kernel
theorem dX11_without_17 : decode cX11_without 17 = .ok (.aload_n 0, 1) := by decide +kernel
theorem dX11_without_18 : decode cX11_without 18 = .ok (.getfield 91, 3) := by decide +kernel
theorem dX11_without_21 : decode cX11_without 21 = .ok (.aload_n 0, 1) := by decide +kernel
theorem dX11_without_22 : decode cX11_without 22 = .ok (.getfield 19, 3) := by decide +kernel
theorem dX11_without_25 : decode cX11_without 25 = .ok (.aload_n 0, 1) := by decide +kernel
theorem dX11_without_26 : decode cX11_without 26 = .ok (.getfield 64, 3) := by decide +kernel
theorem dX11_without_29 : decode cX11_without 29 = .ok (.aload_n 0, 1) := by decide +kernel
theorem dX11_without_30 : decode cX11_without 30 = .ok (.getfield 29, 3) := by decide +kernel
theorem dX11_without_33 : decode cX11_without 33 = .ok (.aload_n 0, 1) := by decide +kernel
theorem dX11_without_34 : decode cX11_without 34 = .ok (.getfield 19, 3) := by decide +kernel
theorem dX11_without_37 : decode cX11_without 37 = .ok (.iload_n 1, 1) := by decide +kernel
theorem dX11_without_38 : decode cX11_without 38 = .ok (.invokevirtual 157, 3) := by decide +kernel
theorem dX11_without_41 : decode cX11_without 41 = .ok (.invokevirtual 405, 3) := by decide +kernel
theorem dX11_without_44 : decode cX11_without 44 = .ok (.aload_n 0, 1) := by decide +kernel
theorem dX11_without_45 : decode cX11_without 45 = .ok (.getfield 91, 3) := by decide +kernel
theorem dX11_without_48 : decode cX11_without 48 = .ok (.invokevirtual 408, 3) := by decide +kernel
theorem dX11_without_51 : decode cX11_without 51 = .ok (.aload_n 0, 1) := by decide +kernel
theorem dX11_without_52 : decode cX11_without 52 = .ok (.getfield 91, 3) := by decide +kernel
theorem dX11_without_55 : decode cX11_without 55 = .ok (.getfield 336, 3) := by decide +kernel
theorem dX11_without_58 : decode cX11_without 58 = .ok (.ireturn, 1) := by decide +kernel
theorem dX11_worth_0 : decode cX11_worth 0 = .ok (.iload_n 3, 1) := by decide +kernel
theorem dX11_worth_1 : decode cX11_worth 1 = .ok (.iconst 1, 1) := by decide +kernel
theorem dX11_worth_2 : decode cX11_worth 2 = .ok (.if_icmp .lt 19, 3) := by decide +kernel
theorem dX11_worth_5 : decode cX11_worth 5 = .ok (.iload_n 3, 1) := by decide +kernel
theorem dX11_worth_6 : decode cX11_worth 6 = .ok (.ldc_w 304, 3) := by decide +kernel
theorem dX11_worth_9 : decode cX11_worth 9 = .ok (.if_icmp .gt 12, 3) := by decide +kernel
theorem dX11_worth_12 : decode cX11_worth 12 = .ok (.aload_n 0, 1) := by decide +kernel
theorem dX11_worth_13 : decode cX11_worth 13 = .ok (.iload_n 1, 1) := by decide +kernel
theorem dX11_worth_14 : decode cX11_worth 14 = .ok (.iload_n 2, 1) := by decide +kernel
theorem dX11_worth_15 : decode cX11_worth 15 = .ok (.invokevirtual 294, 3) := by decide +kernel
theorem dX11_worth_18 : decode cX11_worth 18 = .ok (.ifCond .ne 7, 3) := by decide +kernel
theorem dX11_worth_21 : decode cX11_worth 21 = .ok (.iconst (-1), 1) := by decide +kernel
theorem dX11_worth_22 : decode cX11_worth 22 = .ok (.goto 10, 3) := by decide +kernel
theorem dX11_worth_25 : decode cX11_worth 25 = .ok (.aload_n 0, 1) := by decide +kernel
theorem dX11_worth_26 : decode cX11_worth 26 = .ok (.iload_n 1, 1) := by decide +kernel
theorem dX11_worth_27 : decode cX11_worth 27 = .ok (.iload_n 2, 1) := by decide +kernel
theorem dX11_worth_28 : decode cX11_worth 28 = .ok (.iload_n 3, 1) := by decide +kernel
theorem dX11_worth_29 : decode cX11_worth 29 = .ok (.invokevirtual 410, 3) := by decide +kernel
theorem dX11_worth_32 : decode cX11_worth 32 = .ok (.ireturn, 1) := by decide +kernel
theorem dX11_lack_0 : decode cX11_lack 0 = .ok (.iload_n 3, 1) := by decide +kernel
theorem dX11_lack_1 : decode cX11_lack 1 = .ok (.iconst 1, 1) := by decide +kernel
theorem dX11_lack_2 : decode cX11_lack 2 = .ok (.if_icmp .lt 19, 3) := by decide +kernel
theorem dX11_lack_5 : decode cX11_lack 5 = .ok (.iload_n 3, 1) := by decide +kernel
theorem dX11_lack_6 : decode cX11_lack 6 = .ok (.ldc_w 304, 3) := by decide +kernel
theorem dX11_lack_9 : decode cX11_lack 9 = .ok (.if_icmp .gt 12, 3) := by decide +kernel
theorem dX11_lack_12 : decode cX11_lack 12 = .ok (.aload_n 0, 1) := by decide +kernel
theorem dX11_lack_13 : decode cX11_lack 13 = .ok (.iload_n 1, 1) := by decide +kernel
theorem dX11_lack_14 : decode cX11_lack 14 = .ok (.iload_n 2, 1) := by decide +kernel
theorem dX11_lack_15 : decode cX11_lack 15 = .ok (.invokevirtual 294, 3) := by decide +kernel
theorem dX11_lack_18 : decode cX11_lack 18 = .ok (.ifCond .ne 7, 3) := by decide +kernel
theorem dX11_lack_21 : decode cX11_lack 21 = .ok (.iconst (-1), 1) := by decide +kernel
theorem dX11_lack_22 : decode cX11_lack 22 = .ok (.goto 12, 3) := by decide +kernel
theorem dX11_lack_25 : decode cX11_lack 25 = .ok (.aload_n 0, 1) := by decide +kernel
theorem dX11_lack_26 : decode cX11_lack 26 = .ok (.iload_n 1, 1) := by decide +kernel
theorem dX11_lack_27 : decode cX11_lack 27 = .ok (.iload_n 2, 1) := by decide +kernel
theorem dX11_lack_28 : decode cX11_lack 28 = .ok (.iload_n 3, 1) := by decide +kernel
theorem dX11_lack_29 : decode cX11_lack 29 = .ok (.ineg, 1) := by decide +kernel
theorem dX11_lack_30 : decode cX11_lack 30 = .ok (.invokevirtual 410, 3) := by decide +kernel
theorem dX11_lack_33 : decode cX11_lack 33 = .ok (.ineg, 1) := by decide +kernel
theorem dX11_lack_34 : decode cX11_lack 34 = .ok (.ireturn, 1) := by decide +kernel
theorem dX11_gainByRoom_0 : decode cX11_gainByRoom 0 = .ok (.aload_n 0, 1) := by decide +kernel
theorem dX11_gainByRoom_1 : decode cX11_gainByRoom 1 = .ok (.invokevirtual 321, 3) := by decide +kernel
theorem dX11_gainByRoom_4 : decode cX11_gainByRoom 4 = .ok (.aload_n 0, 1) := by decide +kernel
theorem dX11_gainByRoom_5 : decode cX11_gainByRoom 5 = .ok (.getfield 91, 3) := by decide +kernel
theorem dX11_gainByRoom_8 : decode cX11_gainByRoom 8 = .ok (.aload_n 0, 1) := by decide +kernel
theorem dX11_gainByRoom_9 : decode cX11_gainByRoom 9 = .ok (.getfield 19, 3) := by decide +kernel
theorem dX11_gainByRoom_12 : decode cX11_gainByRoom 12 = .ok (.aload_n 0, 1) := by decide +kernel
theorem dX11_gainByRoom_13 : decode cX11_gainByRoom 13 = .ok (.getfield 64, 3) := by decide +kernel
theorem dX11_gainByRoom_16 : decode cX11_gainByRoom 16 = .ok (.aload_n 0, 1) := by decide +kernel
theorem dX11_gainByRoom_17 : decode cX11_gainByRoom 17 = .ok (.getfield 29, 3) := by decide +kernel
theorem dX11_gainByRoom_20 : decode cX11_gainByRoom 20 = .ok (.iconst 0, 1) := by decide +kernel
theorem dX11_gainByRoom_21 : decode cX11_gainByRoom 21 = .ok (.invokevirtual 405, 3) := by decide +kernel
theorem dX11_gainByRoom_24 : decode cX11_gainByRoom 24 = .ok (.iload_n 1, 1) := by decide +kernel
theorem dX11_gainByRoom_25 : decode cX11_gainByRoom 25 = .ok (.bipush 12, 2) := by decide +kernel
theorem dX11_gainByRoom_27 : decode cX11_gainByRoom 27 = .ok (.imul, 1) := by decide +kernel
theorem dX11_gainByRoom_28 : decode cX11_gainByRoom 28 = .ok (.iload_n 2, 1) := by decide +kernel
theorem dX11_gainByRoom_29 : decode cX11_gainByRoom 29 = .ok (.iadd, 1) := by decide +kernel
theorem dX11_gainByRoom_30 : decode cX11_gainByRoom 30 = .ok (.istore 4, 2) := by decide +kernel
theorem dX11_gainByRoom_32 : decode cX11_gainByRoom 32 = .ok (.aload_n 0, 1) := by decide +kernel
theorem dX11_gainByRoom_33 : decode cX11_gainByRoom 33 = .ok (.getfield 91, 3) := by decide +kernel
theorem dX11_gainByRoom_36 : decode cX11_gainByRoom 36 = .ok (.getfield 413, 3) := by decide +kernel
theorem dX11_gainByRoom_39 : decode cX11_gainByRoom 39 = .ok (.iload 4, 2) := by decide +kernel
theorem dX11_gainByRoom_41 : decode cX11_gainByRoom 41 = .ok (.iconst 0, 1) := by decide +kernel
theorem dX11_gainByRoom_42 : decode cX11_gainByRoom 42 = .ok (.aload_n 0, 1) := by decide +kernel
theorem dX11_gainByRoom_43 : decode cX11_gainByRoom 43 = .ok (.getfield 91, 3) := by decide +kernel
theorem dX11_gainByRoom_46 : decode cX11_gainByRoom 46 = .ok (.getfield 413, 3) := by decide +kernel
theorem dX11_gainByRoom_49 : decode cX11_gainByRoom 49 = .ok (.iload 4, 2) := by decide +kernel
theorem dX11_gainByRoom_51 : decode cX11_gainByRoom 51 = .ok (.iaload, 1) := by decide +kernel
theorem dX11_gainByRoom_52 : decode cX11_gainByRoom 52 = .ok (.iload_n 3, 1) := by decide +kernel
theorem dX11_gainByRoom_53 : decode cX11_gainByRoom 53 = .ok (.iadd, 1) := by decide +kernel
theorem dX11_gainByRoom_54 : decode cX11_gainByRoom 54 = .ok (.invokestatic 286, 3) := by decide +kernel
theorem dX11_gainByRoom_57 : decode cX11_gainByRoom 57 = .ok (.iastore, 1) := by decide +kernel
theorem dX11_gainByRoom_58 : decode cX11_gainByRoom 58 = .ok (.aload_n 0, 1) := by decide +kernel
theorem dX11_gainByRoom_59 : decode cX11_gainByRoom 59 = .ok (.getfield 91, 3) := by decide +kernel
theorem dX11_gainByRoom_62 : decode cX11_gainByRoom 62 = .ok (.invokevirtual 408, 3) := by decide +kernel
theorem dX11_gainByRoom_65 : decode cX11_gainByRoom 65 = .ok (.aload_n 0, 1) := by decide +kernel
theorem dX11_gainByRoom_66 : decode cX11_gainByRoom 66 = .ok (.getfield 91, 3) := by decide +kernel
theorem dX11_gainByRoom_69 : decode cX11_gainByRoom 69 = .ok (.getfield 336, 3) := by decide +kernel
theorem dX11_gainByRoom_72 : decode cX11_gainByRoom 72 = .ok (.aload_n 0, 1) := by decide +kernel
theorem dX11_gainByRoom_73 : decode cX11_gainByRoom 73 = .ok (.getfield 71, 3) := by decide +kernel
theorem dX11_gainByRoom_76 : decode cX11_gainByRoom 76 = .ok (.getfield 336, 3) := by decide +kernel
theorem dX11_gainByRoom_79 : decode cX11_gainByRoom 79 = .ok (.isub, 1) := by decide +kernel
theorem dX11_gainByRoom_80 : decode cX11_gainByRoom 80 = .ok (.ireturn, 1) := by decide +kernel
theorem dX11_byCarry_0 : decode cX11_byCarry 0 = .ok (.iload_n 1, 1) := by decide +kernel
theorem dX11_byCarry_1 : decode cX11_byCarry 1 = .ok (.ifCond .lt 8, 3) := by decide +kernel
theorem dX11_byCarry_4 : decode cX11_byCarry 4 = .ok (.iload_n 1, 1) := by decide +kernel
theorem dX11_byCarry_5 : decode cX11_byCarry 5 = .ok (.iconst 1, 1) := by decide +kernel
theorem dX11_byCarry_6 : decode cX11_byCarry 6 = .ok (.if_icmp .le 5, 3) := by decide +kernel
theorem dX11_byCarry_9 : decode cX11_byCarry 9 = .ok (.iconst (-1), 1) := by decide +kernel
theorem dX11_byCarry_10 : decode cX11_byCarry 10 = .ok (.ireturn, 1) := by decide +kernel
theorem dX11_byCarry_11 : decode cX11_byCarry 11 = .ok (.aload_n 0, 1) := by decide +kernel
theorem dX11_byCarry_12 : decode cX11_byCarry 12 = .ok (.invokevirtual 233, 3) := by decide +kernel
theorem dX11_byCarry_15 : decode cX11_byCarry 15 = .ok (.aload_n 0, 1) := by decide +kernel
theorem dX11_byCarry_16 : decode cX11_byCarry 16 = .ok (.aload_n 0, 1) := by decide +kernel
theorem dX11_byCarry_17 : decode cX11_byCarry 17 = .ok (.getfield 57, 3) := by decide +kernel
theorem dX11_byCarry_20 : decode cX11_byCarry 20 = .ok (.iload_n 1, 1) := by decide +kernel
theorem dX11_byCarry_21 : decode cX11_byCarry 21 = .ok (.aload_n 0, 1) := by decide +kernel
theorem dX11_byCarry_22 : decode cX11_byCarry 22 = .ok (.getfield 19, 3) := by decide +kernel
theorem dX11_byCarry_25 : decode cX11_byCarry 25 = .ok (.getfield 172, 3) := by decide +kernel
theorem dX11_byCarry_28 : decode cX11_byCarry 28 = .ok (.invokevirtual 416, 3) := by decide +kernel
theorem dX11_byCarry_31 : decode cX11_byCarry 31 = .ok (.ireturn, 1) := by decide +kernel
theorem dX11_byGate_0 : decode cX11_byGate 0 = .ok (.iload_n 1, 1) := by decide +kernel
theorem dX11_byGate_1 : decode cX11_byGate 1 = .ok (.iconst 1, 1) := by decide +kernel
theorem dX11_byGate_2 : decode cX11_byGate 2 = .ok (.if_icmp .lt 9, 3) := by decide +kernel
theorem dX11_byGate_5 : decode cX11_byGate 5 = .ok (.iload_n 1, 1) := by decide +kernel
theorem dX11_byGate_6 : decode cX11_byGate 6 = .ok (.bipush 100, 2) := by decide +kernel
theorem dX11_byGate_8 : decode cX11_byGate 8 = .ok (.if_icmp .le 7, 3) := by decide +kernel
theorem dX11_byGate_11 : decode cX11_byGate 11 = .ok (.iconst (-1), 1) := by decide +kernel
theorem dX11_byGate_12 : decode cX11_byGate 12 = .ok (.goto 8, 3) := by decide +kernel
theorem dX11_byGate_15 : decode cX11_byGate 15 = .ok (.aload_n 0, 1) := by decide +kernel
theorem dX11_byGate_16 : decode cX11_byGate 16 = .ok (.iload_n 1, 1) := by decide +kernel
theorem dX11_byGate_17 : decode cX11_byGate 17 = .ok (.invokevirtual 420, 3) := by decide +kernel
theorem dX11_byGate_20 : decode cX11_byGate 20 = .ok (.ireturn, 1) := by decide +kernel
theorem dX11_gateFor_0 : decode cX11_gateFor 0 = .ok (.iload_n 1, 1) := by decide +kernel
theorem dX11_gateFor_1 : decode cX11_gateFor 1 = .ok (.ifCond .lt 10, 3) := by decide +kernel
theorem dX11_gateFor_4 : decode cX11_gateFor 4 = .ok (.iload_n 1, 1) := by decide +kernel
theorem dX11_gateFor_5 : decode cX11_gateFor 5 = .ok (.ldc_w 423, 3) := by decide +kernel
theorem dX11_gateFor_8 : decode cX11_gateFor 8 = .ok (.if_icmp .le 5, 3) := by decide +kernel
theorem dX11_gateFor_11 : decode cX11_gateFor 11 = .ok (.iconst (-1), 1) := by decide +kernel
theorem dX11_gateFor_12 : decode cX11_gateFor 12 = .ok (.ireturn, 1) := by decide +kernel
theorem dX11_gateFor_13 : decode cX11_gateFor 13 = .ok (.iconst 0, 1) := by decide +kernel
theorem dX11_gateFor_14 : decode cX11_gateFor 14 = .ok (.istore_n 2, 1) := by decide +kernel
theorem dX11_gateFor_15 : decode cX11_gateFor 15 = .ok (.bipush 100, 2) := by decide +kernel
theorem dX11_gateFor_17 : decode cX11_gateFor 17 = .ok (.istore_n 3, 1) := by decide +kernel
theorem dX11_gateFor_18 : decode cX11_gateFor 18 = .ok (.iconst 0, 1) := by decide +kernel
theorem dX11_gateFor_19 : decode cX11_gateFor 19 = .ok (.istore 4, 2) := by decide +kernel
theorem dX11_gateFor_21 : decode cX11_gateFor 21 = .ok (.iload 4, 2) := by decide +kernel
theorem dX11_gateFor_23 : decode cX11_gateFor 23 = .ok (.bipush 100, 2) := by decide +kernel
theorem dX11_gateFor_25 : decode cX11_gateFor 25 = .ok (.if_icmp .ge 44, 3) := by decide +kernel
theorem dX11_gateFor_28 : decode cX11_gateFor 28 = .ok (.iload_n 2, 1) := by decide +kernel
theorem dX11_gateFor_29 : decode cX11_gateFor 29 = .ok (.iload_n 3, 1) := by decide +kernel
theorem dX11_gateFor_30 : decode cX11_gateFor 30 = .ok (.if_icmp .ge 39, 3) := by decide +kernel
theorem dX11_gateFor_33 : decode cX11_gateFor 33 = .ok (.iload_n 2, 1) := by decide +kernel
theorem dX11_gateFor_34 : decode cX11_gateFor 34 = .ok (.iload_n 3, 1) := by decide +kernel
theorem dX11_gateFor_35 : decode cX11_gateFor 35 = .ok (.iadd, 1) := by decide +kernel
theorem dX11_gateFor_36 : decode cX11_gateFor 36 = .ok (.iconst 1, 1) := by decide +kernel
theorem dX11_gateFor_37 : decode cX11_gateFor 37 = .ok (.iadd, 1) := by decide +kernel
theorem dX11_gateFor_38 : decode cX11_gateFor 38 = .ok (.iconst 2, 1) := by decide +kernel
theorem dX11_gateFor_39 : decode cX11_gateFor 39 = .ok (.idiv, 1) := by decide +kernel
theorem dX11_gateFor_40 : decode cX11_gateFor 40 = .ok (.istore 5, 2) := by decide +kernel
theorem dX11_gateFor_42 : decode cX11_gateFor 42 = .ok (.aload_n 0, 1) := by decide +kernel
theorem dX11_gateFor_43 : decode cX11_gateFor 43 = .ok (.iload 5, 2) := by decide +kernel
theorem dX11_gateFor_45 : decode cX11_gateFor 45 = .ok (.invokevirtual 420, 3) := by decide +kernel
theorem dX11_gateFor_48 : decode cX11_gateFor 48 = .ok (.iload_n 1, 1) := by decide +kernel
theorem dX11_gateFor_49 : decode cX11_gateFor 49 = .ok (.if_icmp .lt 9, 3) := by decide +kernel
theorem dX11_gateFor_52 : decode cX11_gateFor 52 = .ok (.iload 5, 2) := by decide +kernel
theorem dX11_gateFor_54 : decode cX11_gateFor 54 = .ok (.istore_n 2, 1) := by decide +kernel
theorem dX11_gateFor_55 : decode cX11_gateFor 55 = .ok (.goto 8, 3) := by decide +kernel
theorem dX11_gateFor_58 : decode cX11_gateFor 58 = .ok (.iload 5, 2) := by decide +kernel
theorem dX11_gateFor_60 : decode cX11_gateFor 60 = .ok (.iconst 1, 1) := by decide +kernel
theorem dX11_gateFor_61 : decode cX11_gateFor 61 = .ok (.isub, 1) := by decide +kernel
theorem dX11_gateFor_62 : decode cX11_gateFor 62 = .ok (.istore_n 3, 1) := by decide +kernel
theorem dX11_gateFor_63 : decode cX11_gateFor 63 = .ok (.iinc 4 1, 3) := by decide +kernel
theorem dX11_gateFor_66 : decode cX11_gateFor 66 = .ok (.goto (-45), 3) := by decide +kernel
theorem dX11_gateFor_69 : decode cX11_gateFor 69 = .ok (.iload_n 2, 1) := by decide +kernel
theorem dX11_gateFor_70 : decode cX11_gateFor 70 = .ok (.ifCond .ne 8, 3) := by decide +kernel
theorem dX11_gateFor_73 : decode cX11_gateFor 73 = .ok (.bipush (-2), 2) := by decide +kernel
theorem dX11_gateFor_75 : decode cX11_gateFor 75 = .ok (.goto 4, 3) := by decide +kernel
theorem dX11_gateFor_78 : decode cX11_gateFor 78 = .ok (.iload_n 2, 1) := by decide +kernel
theorem dX11_gateFor_79 : decode cX11_gateFor 79 = .ok (.ireturn, 1) := by decide +kernel
theorem dX11_reliefByGate_0 : decode cX11_reliefByGate 0 = .ok (.aload_n 0, 1) := by decide +kernel
theorem dX11_reliefByGate_1 : decode cX11_reliefByGate 1 = .ok (.getfield 85, 3) := by decide +kernel
theorem dX11_reliefByGate_4 : decode cX11_reliefByGate 4 = .ok (.aload_n 0, 1) := by decide +kernel
theorem dX11_reliefByGate_5 : decode cX11_reliefByGate 5 = .ok (.getfield 19, 3) := by decide +kernel
theorem dX11_reliefByGate_8 : decode cX11_reliefByGate 8 = .ok (.iload_n 1, 1) := by decide +kernel
theorem dX11_reliefByGate_9 : decode cX11_reliefByGate 9 = .ok (.aload_n 0, 1) := by decide +kernel
theorem dX11_reliefByGate_10 : decode cX11_reliefByGate 10 = .ok (.getfield 50, 3) := by decide +kernel
theorem dX11_reliefByGate_13 : decode cX11_reliefByGate 13 = .ok (.invokevirtual 424, 3) := by decide +kernel
theorem dX11_reliefByGate_16 : decode cX11_reliefByGate 16 = .ok (.aload_n 0, 1) := by decide +kernel
theorem dX11_reliefByGate_17 : decode cX11_reliefByGate 17 = .ok (.aload_n 0, 1) := by decide +kernel
theorem dX11_reliefByGate_18 : decode cX11_reliefByGate 18 = .ok (.getfield 85, 3) := by decide +kernel
theorem dX11_reliefByGate_21 : decode cX11_reliefByGate 21 = .ok (.aload_n 0, 1) := by decide +kernel
theorem dX11_reliefByGate_22 : decode cX11_reliefByGate 22 = .ok (.getfield 19, 3) := by decide +kernel
theorem dX11_reliefByGate_25 : decode cX11_reliefByGate 25 = .ok (.getfield 428, 3) := by decide +kernel
theorem dX11_reliefByGate_28 : decode cX11_reliefByGate 28 = .ok (.aload_n 0, 1) := by decide +kernel
theorem dX11_reliefByGate_29 : decode cX11_reliefByGate 29 = .ok (.getfield 19, 3) := by decide +kernel
theorem dX11_reliefByGate_32 : decode cX11_reliefByGate 32 = .ok (.getfield 172, 3) := by decide +kernel
theorem dX11_reliefByGate_35 : decode cX11_reliefByGate 35 = .ok (.invokevirtual 416, 3) := by decide +kernel
theorem dX11_reliefByGate_38 : decode cX11_reliefByGate 38 = .ok (.ireturn, 1) := by decide +kernel
theorem dX11_ifFirst_0 : decode cX11_ifFirst 0 = .ok (.aload_n 0, 1) := by decide +kernel
theorem dX11_ifFirst_1 : decode cX11_ifFirst 1 = .ok (.getfield 19, 3) := by decide +kernel
theorem dX11_ifFirst_4 : decode cX11_ifFirst 4 = .ok (.iload_n 1, 1) := by decide +kernel
theorem dX11_ifFirst_5 : decode cX11_ifFirst 5 = .ok (.invokevirtual 165, 3) := by decide +kernel
theorem dX11_ifFirst_8 : decode cX11_ifFirst 8 = .ok (.ifCond .eq 20, 3) := by decide +kernel
theorem dX11_ifFirst_11 : decode cX11_ifFirst 11 = .ok (.iload_n 2, 1) := by decide +kernel
theorem dX11_ifFirst_12 : decode cX11_ifFirst 12 = .ok (.ifCond .lt 16, 3) := by decide +kernel
theorem dX11_ifFirst_15 : decode cX11_ifFirst 15 = .ok (.iload_n 2, 1) := by decide +kernel
theorem dX11_ifFirst_16 : decode cX11_ifFirst 16 = .ok (.aload_n 0, 1) := by decide +kernel
theorem dX11_ifFirst_17 : decode cX11_ifFirst 17 = .ok (.getfield 19, 3) := by decide +kernel
theorem dX11_ifFirst_20 : decode cX11_ifFirst 20 = .ok (.getfield 175, 3) := by decide +kernel
theorem dX11_ifFirst_23 : decode cX11_ifFirst 23 = .ok (.iload_n 1, 1) := by decide +kernel
theorem dX11_ifFirst_24 : decode cX11_ifFirst 24 = .ok (.iaload, 1) := by decide +kernel
theorem dX11_ifFirst_25 : decode cX11_ifFirst 25 = .ok (.if_icmp .le 5, 3) := by decide +kernel
theorem dX11_ifFirst_28 : decode cX11_ifFirst 28 = .ok (.iconst (-1), 1) := by decide +kernel
theorem dX11_ifFirst_29 : decode cX11_ifFirst 29 = .ok (.ireturn, 1) := by decide +kernel
theorem dX11_ifFirst_30 : decode cX11_ifFirst 30 = .ok (.aload_n 0, 1) := by decide +kernel
theorem dX11_ifFirst_31 : decode cX11_ifFirst 31 = .ok (.getfield 19, 3) := by decide +kernel
theorem dX11_ifFirst_34 : decode cX11_ifFirst 34 = .ok (.aload_n 0, 1) := by decide +kernel
theorem dX11_ifFirst_35 : decode cX11_ifFirst 35 = .ok (.getfield 19, 3) := by decide +kernel
theorem dX11_ifFirst_38 : decode cX11_ifFirst 38 = .ok (.getfield 169, 3) := by decide +kernel
theorem dX11_ifFirst_41 : decode cX11_ifFirst 41 = .ok (.iload_n 1, 1) := by decide +kernel
theorem dX11_ifFirst_42 : decode cX11_ifFirst 42 = .ok (.iaload, 1) := by decide +kernel
theorem dX11_ifFirst_43 : decode cX11_ifFirst 43 = .ok (.iload_n 2, 1) := by decide +kernel
theorem dX11_ifFirst_44 : decode cX11_ifFirst 44 = .ok (.aload_n 0, 1) := by decide +kernel
theorem dX11_ifFirst_45 : decode cX11_ifFirst 45 = .ok (.getfield 19, 3) := by decide +kernel
theorem dX11_ifFirst_48 : decode cX11_ifFirst 48 = .ok (.getfield 175, 3) := by decide +kernel
theorem dX11_ifFirst_51 : decode cX11_ifFirst 51 = .ok (.iload_n 1, 1) := by decide +kernel
theorem dX11_ifFirst_52 : decode cX11_ifFirst 52 = .ok (.iaload, 1) := by decide +kernel
theorem dX11_ifFirst_53 : decode cX11_ifFirst 53 = .ok (.iload_n 1, 1) := by decide +kernel
theorem dX11_ifFirst_54 : decode cX11_ifFirst 54 = .ok (.invokevirtual 431, 3) := by decide +kernel
theorem dX11_ifFirst_57 : decode cX11_ifFirst 57 = .ok (.ifCond .eq 6, 3) := by decide +kernel
theorem dX11_ifFirst_60 : decode cX11_ifFirst 60 = .ok (.bipush (-2), 2) := by decide +kernel
theorem dX11_ifFirst_62 : decode cX11_ifFirst 62 = .ok (.ireturn, 1) := by decide +kernel
theorem dX11_ifFirst_63 : decode cX11_ifFirst 63 = .ok (.aload_n 0, 1) := by decide +kernel
theorem dX11_ifFirst_64 : decode cX11_ifFirst 64 = .ok (.getfield 19, 3) := by decide +kernel
theorem dX11_ifFirst_67 : decode cX11_ifFirst 67 = .ok (.getfield 172, 3) := by decide +kernel
theorem dX11_ifFirst_70 : decode cX11_ifFirst 70 = .ok (.iconst 0, 1) := by decide +kernel
theorem dX11_ifFirst_71 : decode cX11_ifFirst 71 = .ok (.aload_n 0, 1) := by decide +kernel
theorem dX11_ifFirst_72 : decode cX11_ifFirst 72 = .ok (.getfield 94, 3) := by decide +kernel
theorem dX11_ifFirst_75 : decode cX11_ifFirst 75 = .ok (.iconst 0, 1) := by decide +kernel
theorem dX11_ifFirst_76 : decode cX11_ifFirst 76 = .ok (.bipush 12, 2) := by decide +kernel
theorem dX11_ifFirst_78 : decode cX11_ifFirst 78 = .ok (.invokestatic 434, 3) := by decide +kernel
theorem dX11_ifFirst_81 : decode cX11_ifFirst 81 = .ok (.aload_n 0, 1) := by decide +kernel
theorem dX11_ifFirst_82 : decode cX11_ifFirst 82 = .ok (.getfield 94, 3) := by decide +kernel
theorem dX11_ifFirst_85 : decode cX11_ifFirst 85 = .ok (.iload_n 1, 1) := by decide +kernel
theorem dX11_ifFirst_86 : decode cX11_ifFirst 86 = .ok (.iload_n 2, 1) := by decide +kernel
theorem dX11_ifFirst_87 : decode cX11_ifFirst 87 = .ok (.iastore, 1) := by decide +kernel
theorem dX11_ifFirst_88 : decode cX11_ifFirst 88 = .ok (.aload_n 0, 1) := by decide +kernel
theorem dX11_ifFirst_89 : decode cX11_ifFirst 89 = .ok (.invokevirtual 233, 3) := by decide +kernel
theorem dX11_ifFirst_92 : decode cX11_ifFirst 92 = .ok (.aload_n 0, 1) := by decide +kernel
theorem dX11_ifFirst_93 : decode cX11_ifFirst 93 = .ok (.aload_n 0, 1) := by decide +kernel
theorem dX11_ifFirst_94 : decode cX11_ifFirst 94 = .ok (.getfield 57, 3) := by decide +kernel
theorem dX11_ifFirst_97 : decode cX11_ifFirst 97 = .ok (.aload_n 0, 1) := by decide +kernel
theorem dX11_ifFirst_98 : decode cX11_ifFirst 98 = .ok (.getfield 19, 3) := by decide +kernel
theorem dX11_ifFirst_101 : decode cX11_ifFirst 101 = .ok (.getfield 428, 3) := by decide +kernel
theorem dX11_ifFirst_104 : decode cX11_ifFirst 104 = .ok (.aload_n 0, 1) := by decide +kernel
theorem dX11_ifFirst_105 : decode cX11_ifFirst 105 = .ok (.getfield 94, 3) := by decide +kernel
theorem dX11_ifFirst_108 : decode cX11_ifFirst 108 = .ok (.invokevirtual 416, 3) := by decide +kernel
theorem dX11_ifFirst_111 : decode cX11_ifFirst 111 = .ok (.ireturn, 1) := by decide +kernel
theorem dX11_reliefWithoutClaims_0 : decode cX11_reliefWithoutClaims 0 = .ok (.aload_n 0, 1) := by decide +kernel
theorem dX11_reliefWithoutClaims_1 : decode cX11_reliefWithoutClaims 1 = .ok (.getfield 82, 3) := by decide +kernel
theorem dX11_reliefWithoutClaims_4 : decode cX11_reliefWithoutClaims 4 = .ok (.invokevirtual 117, 3) := by decide +kernel
theorem dX11_reliefWithoutClaims_7 : decode cX11_reliefWithoutClaims 7 = .ok (.aload_n 0, 1) := by decide +kernel
theorem dX11_reliefWithoutClaims_8 : decode cX11_reliefWithoutClaims 8 = .ok (.getfield 88, 3) := by decide +kernel
theorem dX11_reliefWithoutClaims_11 : decode cX11_reliefWithoutClaims 11 = .ok (.aload_n 0, 1) := by decide +kernel
theorem dX11_reliefWithoutClaims_12 : decode cX11_reliefWithoutClaims 12 = .ok (.getfield 19, 3) := by decide +kernel
theorem dX11_reliefWithoutClaims_15 : decode cX11_reliefWithoutClaims 15 = .ok (.aload_n 1, 1) := by decide +kernel
theorem dX11_reliefWithoutClaims_16 : decode cX11_reliefWithoutClaims 16 = .ok (.iload_n 2, 1) := by decide +kernel
theorem dX11_reliefWithoutClaims_17 : decode cX11_reliefWithoutClaims 17 = .ok (.aload_n 3, 1) := by decide +kernel
theorem dX11_reliefWithoutClaims_18 : decode cX11_reliefWithoutClaims 18 = .ok (.invokevirtual 440, 3) := by decide +kernel
theorem dX11_reliefWithoutClaims_21 : decode cX11_reliefWithoutClaims 21 = .ok (.aload_n 0, 1) := by decide +kernel
theorem dX11_reliefWithoutClaims_22 : decode cX11_reliefWithoutClaims 22 = .ok (.getfield 91, 3) := by decide +kernel
theorem dX11_reliefWithoutClaims_25 : decode cX11_reliefWithoutClaims 25 = .ok (.aload_n 0, 1) := by decide +kernel
theorem dX11_reliefWithoutClaims_26 : decode cX11_reliefWithoutClaims 26 = .ok (.getfield 19, 3) := by decide +kernel
theorem dX11_reliefWithoutClaims_29 : decode cX11_reliefWithoutClaims 29 = .ok (.aload_n 0, 1) := by decide +kernel
theorem dX11_reliefWithoutClaims_30 : decode cX11_reliefWithoutClaims 30 = .ok (.getfield 88, 3) := by decide +kernel
theorem dX11_reliefWithoutClaims_33 : decode cX11_reliefWithoutClaims 33 = .ok (.aload_n 0, 1) := by decide +kernel
theorem dX11_reliefWithoutClaims_34 : decode cX11_reliefWithoutClaims 34 = .ok (.getfield 82, 3) := by decide +kernel
theorem dX11_reliefWithoutClaims_37 : decode cX11_reliefWithoutClaims 37 = .ok (.iconst 0, 1) := by decide +kernel
theorem dX11_reliefWithoutClaims_38 : decode cX11_reliefWithoutClaims 38 = .ok (.invokevirtual 405, 3) := by decide +kernel
theorem dX11_reliefWithoutClaims_41 : decode cX11_reliefWithoutClaims 41 = .ok (.aload_n 0, 1) := by decide +kernel
theorem dX11_reliefWithoutClaims_42 : decode cX11_reliefWithoutClaims 42 = .ok (.getfield 91, 3) := by decide +kernel
theorem dX11_reliefWithoutClaims_45 : decode cX11_reliefWithoutClaims 45 = .ok (.invokevirtual 408, 3) := by decide +kernel
theorem dX11_reliefWithoutClaims_48 : decode cX11_reliefWithoutClaims 48 = .ok (.aload_n 0, 1) := by decide +kernel
theorem dX11_reliefWithoutClaims_49 : decode cX11_reliefWithoutClaims 49 = .ok (.getfield 91, 3) := by decide +kernel
theorem dX11_reliefWithoutClaims_52 : decode cX11_reliefWithoutClaims 52 = .ok (.getfield 336, 3) := by decide +kernel
theorem dX11_reliefWithoutClaims_55 : decode cX11_reliefWithoutClaims 55 = .ok (.ireturn, 1) := by decide +kernel
theorem dX11_chance_0 : decode cX11_chance 0 = .ok (.iload_n 1, 1) := by decide +kernel
theorem dX11_chance_1 : decode cX11_chance 1 = .ok (.iconst (-1), 1) := by decide +kernel
theorem dX11_chance_2 : decode cX11_chance 2 = .ok (.if_icmp .lt 34, 3) := by decide +kernel
theorem dX11_chance_5 : decode cX11_chance 5 = .ok (.iload_n 2, 1) := by decide +kernel
theorem dX11_chance_6 : decode cX11_chance 6 = .ok (.iconst 1, 1) := by decide +kernel
theorem dX11_chance_7 : decode cX11_chance 7 = .ok (.if_icmp .lt 29, 3) := by decide +kernel
theorem dX11_chance_10 : decode cX11_chance 10 = .ok (.iload_n 2, 1) := by decide +kernel
theorem dX11_chance_11 : decode cX11_chance 11 = .ok (.bipush 60, 2) := by decide +kernel
theorem dX11_chance_13 : decode cX11_chance 13 = .ok (.if_icmp .gt 23, 3) := by decide +kernel
theorem dX11_chance_16 : decode cX11_chance 16 = .ok (.iload_n 3, 1) := by decide +kernel
theorem dX11_chance_17 : decode cX11_chance 17 = .ok (.ifCond .lt 19, 3) := by decide +kernel
theorem dX11_chance_20 : decode cX11_chance 20 = .ok (.iload_n 3, 1) := by decide +kernel
theorem dX11_chance_21 : decode cX11_chance 21 = .ok (.iconst 2, 1) := by decide +kernel
theorem dX11_chance_22 : decode cX11_chance 22 = .ok (.if_icmp .gt 14, 3) := by decide +kernel
theorem dX11_chance_25 : decode cX11_chance 25 = .ok (.aload_n 0, 1) := by decide +kernel
theorem dX11_chance_26 : decode cX11_chance 26 = .ok (.getfield 19, 3) := by decide +kernel
theorem dX11_chance_29 : decode cX11_chance 29 = .ok (.getfield 324, 3) := by decide +kernel
theorem dX11_chance_32 : decode cX11_chance 32 = .ok (.iconst 1, 1) := by decide +kernel
theorem dX11_chance_33 : decode cX11_chance 33 = .ok (.if_icmp .ge 5, 3) := by decide +kernel
theorem dX11_chance_36 : decode cX11_chance 36 = .ok (.iconst (-1), 1) := by decide +kernel
theorem dX11_chance_37 : decode cX11_chance 37 = .ok (.ireturn, 1) := by decide +kernel
theorem dX11_chance_38 : decode cX11_chance 38 = .ok (.aload_n 0, 1) := by decide +kernel
theorem dX11_chance_39 : decode cX11_chance 39 = .ok (.getfield 82, 3) := by decide +kernel
theorem dX11_chance_42 : decode cX11_chance 42 = .ok (.aload_n 0, 1) := by decide +kernel
theorem dX11_chance_43 : decode cX11_chance 43 = .ok (.getfield 29, 3) := by decide +kernel
theorem dX11_chance_46 : decode cX11_chance 46 = .ok (.invokevirtual 443, 3) := by decide +kernel
theorem dX11_chance_49 : decode cX11_chance 49 = .ok (.iload_n 1, 1) := by decide +kernel
theorem dX11_chance_50 : decode cX11_chance 50 = .ok (.iconst (-1), 1) := by decide +kernel
theorem dX11_chance_51 : decode cX11_chance 51 = .ok (.if_icmp .ne 13, 3) := by decide +kernel
theorem dX11_chance_54 : decode cX11_chance 54 = .ok (.aload_n 0, 1) := by decide +kernel
theorem dX11_chance_55 : decode cX11_chance 55 = .ok (.getfield 19, 3) := by decide +kernel
theorem dX11_chance_58 : decode cX11_chance 58 = .ok (.getfield 447, 3) := by decide +kernel
theorem dX11_chance_61 : decode cX11_chance 61 = .ok (.goto 4, 3) := by decide +kernel
theorem dX11_chance_64 : decode cX11_chance 64 = .ok (.iload_n 1, 1) := by decide +kernel
theorem dX11_chance_65 : decode cX11_chance 65 = .ok (.istore 4, 2) := by decide +kernel
theorem dX11_chance_67 : decode cX11_chance 67 = .ok (.iconst 0, 1) := by decide +kernel
theorem dX11_chance_68 : decode cX11_chance 68 = .ok (.istore 5, 2) := by decide +kernel
theorem dX11_chance_70 : decode cX11_chance 70 = .ok (.iconst 0, 1) := by decide +kernel
theorem dX11_chance_71 : decode cX11_chance 71 = .ok (.istore 6, 2) := by decide +kernel
theorem dX11_chance_73 : decode cX11_chance 73 = .ok (.iload 6, 2) := by decide +kernel
theorem dX11_chance_75 : decode cX11_chance 75 = .ok (.iload_n 2, 1) := by decide +kernel
theorem dX11_chance_76 : decode cX11_chance 76 = .ok (.if_icmp .ge 94, 3) := by decide +kernel
theorem dX11_chance_79 : decode cX11_chance 79 = .ok (.iload 4, 2) := by decide +kernel
theorem dX11_chance_81 : decode cX11_chance 81 = .ok (.invokestatic 450, 3) := by decide +kernel
theorem dX11_chance_84 : decode cX11_chance 84 = .ok (.istore 4, 2) := by decide +kernel
theorem dX11_chance_86 : decode cX11_chance 86 = .ok (.iload 4, 2) := by decide +kernel
theorem dX11_chance_88 : decode cX11_chance 88 = .ok (.aload_n 0, 1) := by decide +kernel
theorem dX11_chance_89 : decode cX11_chance 89 = .ok (.getfield 19, 3) := by decide +kernel
theorem dX11_chance_92 : decode cX11_chance 92 = .ok (.getfield 324, 3) := by decide +kernel
theorem dX11_chance_95 : decode cX11_chance 95 = .ok (.invokestatic 453, 3) := by decide +kernel
theorem dX11_chance_98 : decode cX11_chance 98 = .ok (.istore 7, 2) := by decide +kernel
theorem dX11_chance_100 : decode cX11_chance 100 = .ok (.iload 4, 2) := by decide +kernel
theorem dX11_chance_102 : decode cX11_chance 102 = .ok (.invokestatic 450, 3) := by decide +kernel
theorem dX11_chance_105 : decode cX11_chance 105 = .ok (.istore 4, 2) := by decide +kernel
theorem dX11_chance_107 : decode cX11_chance 107 = .ok (.iload 4, 2) := by decide +kernel
theorem dX11_chance_109 : decode cX11_chance 109 = .ok (.aload_n 0, 1) := by decide +kernel
theorem dX11_chance_110 : decode cX11_chance 110 = .ok (.getfield 19, 3) := by decide +kernel
theorem dX11_chance_113 : decode cX11_chance 113 = .ok (.getfield 324, 3) := by decide +kernel
theorem dX11_chance_116 : decode cX11_chance 116 = .ok (.invokestatic 453, 3) := by decide +kernel
theorem dX11_chance_119 : decode cX11_chance 119 = .ok (.istore 8, 2) := by decide +kernel
theorem dX11_chance_121 : decode cX11_chance 121 = .ok (.iload 4, 2) := by decide +kernel
theorem dX11_chance_123 : decode cX11_chance 123 = .ok (.invokestatic 450, 3) := by decide +kernel
theorem dX11_chance_126 : decode cX11_chance 126 = .ok (.istore 4, 2) := by decide +kernel
theorem dX11_chance_128 : decode cX11_chance 128 = .ok (.iload 4, 2) := by decide +kernel
theorem dX11_chance_130 : decode cX11_chance 130 = .ok (.sipush 1000, 3) := by decide +kernel
theorem dX11_chance_133 : decode cX11_chance 133 = .ok (.invokestatic 453, 3) := by decide +kernel
theorem dX11_chance_136 : decode cX11_chance 136 = .ok (.iconst 1, 1) := by decide +kernel
theorem dX11_chance_137 : decode cX11_chance 137 = .ok (.iadd, 1) := by decide +kernel
theorem dX11_chance_138 : decode cX11_chance 138 = .ok (.istore 9, 2) := by decide +kernel
theorem dX11_chance_140 : decode cX11_chance 140 = .ok (.aload_n 0, 1) := by decide +kernel
theorem dX11_chance_141 : decode cX11_chance 141 = .ok (.aload_n 0, 1) := by decide +kernel
theorem dX11_chance_142 : decode cX11_chance 142 = .ok (.getfield 82, 3) := by decide +kernel
theorem dX11_chance_145 : decode cX11_chance 145 = .ok (.iload 7, 2) := by decide +kernel
theorem dX11_chance_147 : decode cX11_chance 147 = .ok (.iload 8, 2) := by decide +kernel
theorem dX11_chance_149 : decode cX11_chance 149 = .ok (.iload 9, 2) := by decide +kernel
theorem dX11_chance_151 : decode cX11_chance 151 = .ok (.invokevirtual 300, 3) := by decide +kernel
theorem dX11_chance_154 : decode cX11_chance 154 = .ok (.ifCond .lt 10, 3) := by decide +kernel
theorem dX11_chance_157 : decode cX11_chance 157 = .ok (.iload 5, 2) := by decide +kernel
theorem dX11_chance_159 : decode cX11_chance 159 = .ok (.iload 9, 2) := by decide +kernel
theorem dX11_chance_161 : decode cX11_chance 161 = .ok (.iadd, 1) := by decide +kernel
theorem dX11_chance_162 : decode cX11_chance 162 = .ok (.istore 5, 2) := by decide +kernel
theorem dX11_chance_164 : decode cX11_chance 164 = .ok (.iinc 6 1, 3) := by decide +kernel
theorem dX11_chance_167 : decode cX11_chance 167 = .ok (.goto (-94), 3) := by decide +kernel
theorem dX11_chance_170 : decode cX11_chance 170 = .ok (.iload_n 3, 1) := by decide +kernel
theorem dX11_chance_171 : decode cX11_chance 171 = .ok (.iconst 2, 1) := by decide +kernel
theorem dX11_chance_172 : decode cX11_chance 172 = .ok (.if_icmp .ge 28, 3) := by decide +kernel
theorem dX11_chance_175 : decode cX11_chance 175 = .ok (.iload_n 3, 1) := by decide +kernel
theorem dX11_chance_176 : decode cX11_chance 176 = .ok (.ifCond .ne 21, 3) := by decide +kernel
theorem dX11_chance_179 : decode cX11_chance 179 = .ok (.aload_n 0, 1) := by decide +kernel
theorem dX11_chance_180 : decode cX11_chance 180 = .ok (.getfield 82, 3) := by decide +kernel
theorem dX11_chance_183 : decode cX11_chance 183 = .ok (.getfield 273, 3) := by decide +kernel
theorem dX11_chance_186 : decode cX11_chance 186 = .ok (.aload_n 0, 1) := by decide +kernel
theorem dX11_chance_187 : decode cX11_chance 187 = .ok (.getfield 29, 3) := by decide +kernel
theorem dX11_chance_190 : decode cX11_chance 190 = .ok (.getfield 273, 3) := by decide +kernel
theorem dX11_chance_193 : decode cX11_chance 193 = .ok (.isub, 1) := by decide +kernel
theorem dX11_chance_194 : decode cX11_chance 194 = .ok (.goto 5, 3) := by decide +kernel
theorem dX11_chance_197 : decode cX11_chance 197 = .ok (.iload 5, 2) := by decide +kernel
theorem dX11_chance_199 : decode cX11_chance 199 = .ok (.ireturn, 1) := by decide +kernel
theorem dX11_chance_200 : decode cX11_chance 200 = .ok (.aload_n 0, 1) := by decide +kernel
theorem dX11_chance_201 : decode cX11_chance 201 = .ok (.invokevirtual 233, 3) := by decide +kernel
theorem dX11_chance_204 : decode cX11_chance 204 = .ok (.aload_n 0, 1) := by decide +kernel
theorem dX11_chance_205 : decode cX11_chance 205 = .ok (.getfield 91, 3) := by decide +kernel
theorem dX11_chance_208 : decode cX11_chance 208 = .ok (.aload_n 0, 1) := by decide +kernel
theorem dX11_chance_209 : decode cX11_chance 209 = .ok (.getfield 19, 3) := by decide +kernel
theorem dX11_chance_212 : decode cX11_chance 212 = .ok (.aload_n 0, 1) := by decide +kernel
theorem dX11_chance_213 : decode cX11_chance 213 = .ok (.getfield 64, 3) := by decide +kernel
theorem dX11_chance_216 : decode cX11_chance 216 = .ok (.aload_n 0, 1) := by decide +kernel
theorem dX11_chance_217 : decode cX11_chance 217 = .ok (.getfield 82, 3) := by decide +kernel
theorem dX11_chance_220 : decode cX11_chance 220 = .ok (.iconst 0, 1) := by decide +kernel
theorem dX11_chance_221 : decode cX11_chance 221 = .ok (.invokevirtual 405, 3) := by decide +kernel
theorem dX11_chance_224 : decode cX11_chance 224 = .ok (.aload_n 0, 1) := by decide +kernel
theorem dX11_chance_225 : decode cX11_chance 225 = .ok (.getfield 91, 3) := by decide +kernel
theorem dX11_chance_228 : decode cX11_chance 228 = .ok (.invokevirtual 408, 3) := by decide +kernel
theorem dX11_chance_231 : decode cX11_chance 231 = .ok (.aload_n 0, 1) := by decide +kernel
theorem dX11_chance_232 : decode cX11_chance 232 = .ok (.getfield 91, 3) := by decide +kernel
theorem dX11_chance_235 : decode cX11_chance 235 = .ok (.getfield 336, 3) := by decide +kernel
theorem dX11_chance_238 : decode cX11_chance 238 = .ok (.ireturn, 1) := by decide +kernel
theorem dX11_nextNumber_0 : decode cX11_nextNumber 0 = .ok (.iload_n 0, 1) := by decide +kernel
theorem dX11_nextNumber_1 : decode cX11_nextNumber 1 = .ok (.ldc_w 456, 3) := by decide +kernel
theorem dX11_nextNumber_4 : decode cX11_nextNumber 4 = .ok (.imul, 1) := by decide +kernel
theorem dX11_nextNumber_5 : decode cX11_nextNumber 5 = .ok (.sipush 12345, 3) := by decide +kernel
theorem dX11_nextNumber_8 : decode cX11_nextNumber 8 = .ok (.iadd, 1) := by decide +kernel
theorem dX11_nextNumber_9 : decode cX11_nextNumber 9 = .ok (.ldc_w 457, 3) := by decide +kernel
theorem dX11_nextNumber_12 : decode cX11_nextNumber 12 = .ok (.iand, 1) := by decide +kernel
theorem dX11_nextNumber_13 : decode cX11_nextNumber 13 = .ok (.ireturn, 1) := by decide +kernel
theorem dX11_drawn_0 : decode cX11_drawn 0 = .ok (.iload_n 1, 1) := by decide +kernel
theorem dX11_drawn_1 : decode cX11_drawn 1 = .ok (.iconst 1, 1) := by decide +kernel
theorem dX11_drawn_2 : decode cX11_drawn 2 = .ok (.if_icmp .ge 7, 3) := by decide +kernel
theorem dX11_drawn_5 : decode cX11_drawn 5 = .ok (.iconst 0, 1) := by decide +kernel
theorem dX11_drawn_6 : decode cX11_drawn 6 = .ok (.goto 9, 3) := by decide +kernel
theorem dX11_drawn_9 : decode cX11_drawn 9 = .ok (.iload_n 0, 1) := by decide +kernel
theorem dX11_drawn_10 : decode cX11_drawn 10 = .ok (.bipush 16, 2) := by decide +kernel
theorem dX11_drawn_12 : decode cX11_drawn 12 = .ok (.ishr, 1) := by decide +kernel
theorem dX11_drawn_13 : decode cX11_drawn 13 = .ok (.iload_n 1, 1) := by decide +kernel
theorem dX11_drawn_14 : decode cX11_drawn 14 = .ok (.irem, 1) := by decide +kernel
theorem dX11_drawn_15 : decode cX11_drawn 15 = .ok (.ireturn, 1) := by decide +kernel
theorem dX11_undo_0 : decode cX11_undo 0 = .ok (.aload_n 0, 1) := by decide +kernel
theorem dX11_undo_1 : decode cX11_undo 1 = .ok (.getfield 36, 3) := by decide +kernel
theorem dX11_undo_4 : decode cX11_undo 4 = .ok (.getfield 458, 3) := by decide +kernel
theorem dX11_undo_7 : decode cX11_undo 7 = .ok (.ifCond .ne 5, 3) := by decide +kernel
theorem dX11_undo_10 : decode cX11_undo 10 = .ok (.iconst (-1), 1) := by decide +kernel
theorem dX11_undo_11 : decode cX11_undo 11 = .ok (.ireturn, 1) := by decide +kernel
theorem dX11_undo_12 : decode cX11_undo 12 = .ok (.aload_n 0, 1) := by decide +kernel
theorem dX11_undo_13 : decode cX11_undo 13 = .ok (.getfield 36, 3) := by decide +kernel
theorem dX11_undo_16 : decode cX11_undo 16 = .ok (.invokevirtual 459, 3) := by decide +kernel
theorem dX11_undo_19 : decode cX11_undo 19 = .ok (.istore_n 1, 1) := by decide +kernel
theorem dX11_undo_20 : decode cX11_undo 20 = .ok (.aload_n 0, 1) := by decide +kernel
theorem dX11_undo_21 : decode cX11_undo 21 = .ok (.getfield 36, 3) := by decide +kernel
theorem dX11_undo_24 : decode cX11_undo 24 = .ok (.getfield 462, 3) := by decide +kernel
theorem dX11_undo_27 : decode cX11_undo 27 = .ok (.astore_n 2, 1) := by decide +kernel
theorem dX11_undo_28 : decode cX11_undo 28 = .ok (.aload_n 2, 1) := by decide +kernel
theorem dX11_undo_29 : decode cX11_undo 29 = .ok (.iload_n 1, 1) := by decide +kernel
theorem dX11_undo_30 : decode cX11_undo 30 = .ok (.iaload, 1) := by decide +kernel
theorem dX11_undo_31 : decode cX11_undo 31 = .ok (.tableswitch 103 0 2 #[25, 52, 82], 25) := by decide +kernel
theorem dX11_undo_56 : decode cX11_undo 56 = .ok (.aload_n 0, 1) := by decide +kernel
theorem dX11_undo_57 : decode cX11_undo 57 = .ok (.getfield 29, 3) := by decide +kernel
theorem dX11_undo_60 : decode cX11_undo 60 = .ok (.iconst 0, 1) := by decide +kernel
theorem dX11_undo_61 : decode cX11_undo 61 = .ok (.aload_n 0, 1) := by decide +kernel
theorem dX11_undo_62 : decode cX11_undo 62 = .ok (.getfield 29, 3) := by decide +kernel
theorem dX11_undo_65 : decode cX11_undo 65 = .ok (.getfield 273, 3) := by decide +kernel
theorem dX11_undo_68 : decode cX11_undo 68 = .ok (.aload_n 2, 1) := by decide +kernel
theorem dX11_undo_69 : decode cX11_undo 69 = .ok (.iload_n 1, 1) := by decide +kernel
theorem dX11_undo_70 : decode cX11_undo 70 = .ok (.iconst 1, 1) := by decide +kernel
theorem dX11_undo_71 : decode cX11_undo 71 = .ok (.iadd, 1) := by decide +kernel
theorem dX11_undo_72 : decode cX11_undo 72 = .ok (.iaload, 1) := by decide +kernel
theorem dX11_undo_73 : decode cX11_undo 73 = .ok (.isub, 1) := by decide +kernel
theorem dX11_undo_74 : decode cX11_undo 74 = .ok (.invokestatic 286, 3) := by decide +kernel
theorem dX11_undo_77 : decode cX11_undo 77 = .ok (.putfield 273, 3) := by decide +kernel
theorem dX11_undo_80 : decode cX11_undo 80 = .ok (.goto 64, 3) := by decide +kernel
theorem dX11_undo_83 : decode cX11_undo 83 = .ok (.aload_n 0, 1) := by decide +kernel
theorem dX11_undo_84 : decode cX11_undo 84 = .ok (.getfield 29, 3) := by decide +kernel
theorem dX11_undo_87 : decode cX11_undo 87 = .ok (.aload_n 2, 1) := by decide +kernel
theorem dX11_undo_88 : decode cX11_undo 88 = .ok (.iload_n 1, 1) := by decide +kernel
theorem dX11_undo_89 : decode cX11_undo 89 = .ok (.iconst 1, 1) := by decide +kernel
theorem dX11_undo_90 : decode cX11_undo 90 = .ok (.iadd, 1) := by decide +kernel
theorem dX11_undo_91 : decode cX11_undo 91 = .ok (.iaload, 1) := by decide +kernel
theorem dX11_undo_92 : decode cX11_undo 92 = .ok (.aload_n 2, 1) := by decide +kernel
theorem dX11_undo_93 : decode cX11_undo 93 = .ok (.iload_n 1, 1) := by decide +kernel
theorem dX11_undo_94 : decode cX11_undo 94 = .ok (.iconst 2, 1) := by decide +kernel
theorem dX11_undo_95 : decode cX11_undo 95 = .ok (.iadd, 1) := by decide +kernel
theorem dX11_undo_96 : decode cX11_undo 96 = .ok (.iaload, 1) := by decide +kernel
theorem dX11_undo_97 : decode cX11_undo 97 = .ok (.aload_n 2, 1) := by decide +kernel
theorem dX11_undo_98 : decode cX11_undo 98 = .ok (.iload_n 1, 1) := by decide +kernel
theorem dX11_undo_99 : decode cX11_undo 99 = .ok (.iconst 3, 1) := by decide +kernel
theorem dX11_undo_100 : decode cX11_undo 100 = .ok (.iadd, 1) := by decide +kernel
theorem dX11_undo_101 : decode cX11_undo 101 = .ok (.iaload, 1) := by decide +kernel
theorem dX11_undo_102 : decode cX11_undo 102 = .ok (.aload_n 2, 1) := by decide +kernel
theorem dX11_undo_103 : decode cX11_undo 103 = .ok (.iload_n 1, 1) := by decide +kernel
theorem dX11_undo_104 : decode cX11_undo 104 = .ok (.iconst 4, 1) := by decide +kernel
theorem dX11_undo_105 : decode cX11_undo 105 = .ok (.iadd, 1) := by decide +kernel
theorem dX11_undo_106 : decode cX11_undo 106 = .ok (.iaload, 1) := by decide +kernel
theorem dX11_undo_107 : decode cX11_undo 107 = .ok (.invokevirtual 305, 3) := by decide +kernel
theorem dX11_undo_110 : decode cX11_undo 110 = .ok (.goto 34, 3) := by decide +kernel
theorem dX11_undo_113 : decode cX11_undo 113 = .ok (.aload_n 0, 1) := by decide +kernel
theorem dX11_undo_114 : decode cX11_undo 114 = .ok (.getfield 19, 3) := by decide +kernel
theorem dX11_undo_117 : decode cX11_undo 117 = .ok (.getfield 178, 3) := by decide +kernel
theorem dX11_undo_120 : decode cX11_undo 120 = .ok (.aload_n 2, 1) := by decide +kernel
theorem dX11_undo_121 : decode cX11_undo 121 = .ok (.iload_n 1, 1) := by decide +kernel
theorem dX11_undo_122 : decode cX11_undo 122 = .ok (.iconst 1, 1) := by decide +kernel
theorem dX11_undo_123 : decode cX11_undo 123 = .ok (.iadd, 1) := by decide +kernel
theorem dX11_undo_124 : decode cX11_undo 124 = .ok (.iaload, 1) := by decide +kernel
theorem dX11_undo_125 : decode cX11_undo 125 = .ok (.aload_n 2, 1) := by decide +kernel
theorem dX11_undo_126 : decode cX11_undo 126 = .ok (.iload_n 1, 1) := by decide +kernel
theorem dX11_undo_127 : decode cX11_undo 127 = .ok (.iconst 2, 1) := by decide +kernel
theorem dX11_undo_128 : decode cX11_undo 128 = .ok (.iadd, 1) := by decide +kernel
theorem dX11_undo_129 : decode cX11_undo 129 = .ok (.iaload, 1) := by decide +kernel
theorem dX11_undo_130 : decode cX11_undo 130 = .ok (.iastore, 1) := by decide +kernel
theorem dX11_undo_131 : decode cX11_undo 131 = .ok (.goto 13, 3) := by decide +kernel
theorem dX11_undo_134 : decode cX11_undo 134 = .ok (.aload_n 0, 1) := by decide +kernel
theorem dX11_undo_135 : decode cX11_undo 135 = .ok (.getfield 19, 3) := by decide +kernel
theorem dX11_undo_138 : decode cX11_undo 138 = .ok (.getfield 250, 3) := by decide +kernel
theorem dX11_undo_141 : decode cX11_undo 141 = .ok (.invokevirtual 266, 3) := by decide +kernel
theorem dX11_undo_144 : decode cX11_undo 144 = .ok (.aload_n 0, 1) := by decide +kernel
theorem dX11_undo_145 : decode cX11_undo 145 = .ok (.invokevirtual 124, 3) := by decide +kernel
theorem dX11_undo_148 : decode cX11_undo 148 = .ok (.aload_n 0, 1) := by decide +kernel
theorem dX11_undo_149 : decode cX11_undo 149 = .ok (.getfield 36, 3) := by decide +kernel
theorem dX11_undo_152 : decode cX11_undo 152 = .ok (.getfield 458, 3) := by decide +kernel
theorem dX11_undo_155 : decode cX11_undo 155 = .ok (.ireturn, 1) := by decide +kernel
theorem dX11_keep_0 : decode cX11_keep 0 = .ok (.aload_n 0, 1) := by decide +kernel
theorem dX11_keep_1 : decode cX11_keep 1 = .ok (.getfield 43, 3) := by decide +kernel
theorem dX11_keep_4 : decode cX11_keep 4 = .ok (.iconst 1, 1) := by decide +kernel
theorem dX11_keep_5 : decode cX11_keep 5 = .ok (.putfield 121, 3) := by decide +kernel
theorem dX11_keep_8 : decode cX11_keep 8 = .ok (.aload_n 0, 1) := by decide +kernel
theorem dX11_keep_9 : decode cX11_keep 9 = .ok (.getfield 43, 3) := by decide +kernel
theorem dX11_keep_12 : decode cX11_keep 12 = .ok (.getfield 465, 3) := by decide +kernel
theorem dX11_keep_15 : decode cX11_keep 15 = .ok (.aload_n 0, 1) := by decide +kernel
theorem dX11_keep_16 : decode cX11_keep 16 = .ok (.getfield 29, 3) := by decide +kernel
theorem dX11_keep_19 : decode cX11_keep 19 = .ok (.invokevirtual 443, 3) := by decide +kernel
theorem dX11_keep_22 : decode cX11_keep 22 = .ok (.aload_n 0, 1) := by decide +kernel
theorem dX11_keep_23 : decode cX11_keep 23 = .ok (.getfield 43, 3) := by decide +kernel
theorem dX11_keep_26 : decode cX11_keep 26 = .ok (.getfield 466, 3) := by decide +kernel
theorem dX11_keep_29 : decode cX11_keep 29 = .ok (.aload_n 0, 1) := by decide +kernel
theorem dX11_keep_30 : decode cX11_keep 30 = .ok (.getfield 19, 3) := by decide +kernel
theorem dX11_keep_33 : decode cX11_keep 33 = .ok (.getfield 250, 3) := by decide +kernel
theorem dX11_keep_36 : decode cX11_keep 36 = .ok (.invokevirtual 467, 3) := by decide +kernel
theorem dX11_keep_39 : decode cX11_keep 39 = .ok (.aload_n 0, 1) := by decide +kernel
theorem dX11_keep_40 : decode cX11_keep 40 = .ok (.getfield 19, 3) := by decide +kernel
theorem dX11_keep_43 : decode cX11_keep 43 = .ok (.getfield 178, 3) := by decide +kernel
theorem dX11_keep_46 : decode cX11_keep 46 = .ok (.iconst 0, 1) := by decide +kernel
theorem dX11_keep_47 : decode cX11_keep 47 = .ok (.aload_n 0, 1) := by decide +kernel
theorem dX11_keep_48 : decode cX11_keep 48 = .ok (.getfield 43, 3) := by decide +kernel
theorem dX11_keep_51 : decode cX11_keep 51 = .ok (.getfield 470, 3) := by decide +kernel
theorem dX11_keep_54 : decode cX11_keep 54 = .ok (.iconst 0, 1) := by decide +kernel
theorem dX11_keep_55 : decode cX11_keep 55 = .ok (.bipush 12, 2) := by decide +kernel
theorem dX11_keep_57 : decode cX11_keep 57 = .ok (.invokestatic 434, 3) := by decide +kernel
theorem dX11_keep_60 : decode cX11_keep 60 = .ok (.aload_n 0, 1) := by decide +kernel
theorem dX11_keep_61 : decode cX11_keep 61 = .ok (.getfield 29, 3) := by decide +kernel
theorem dX11_keep_64 : decode cX11_keep 64 = .ok (.getfield 273, 3) := by decide +kernel
theorem dX11_keep_67 : decode cX11_keep 67 = .ok (.ireturn, 1) := by decide +kernel
theorem dX11_back_0 : decode cX11_back 0 = .ok (.aload_n 0, 1) := by decide +kernel
theorem dX11_back_1 : decode cX11_back 1 = .ok (.getfield 43, 3) := by decide +kernel
theorem dX11_back_4 : decode cX11_back 4 = .ok (.getfield 121, 3) := by decide +kernel
theorem dX11_back_7 : decode cX11_back 7 = .ok (.ifCond .ne 5, 3) := by decide +kernel
theorem dX11_back_10 : decode cX11_back 10 = .ok (.iconst (-1), 1) := by decide +kernel
theorem dX11_back_11 : decode cX11_back 11 = .ok (.ireturn, 1) := by decide +kernel
theorem dX11_back_12 : decode cX11_back 12 = .ok (.aload_n 0, 1) := by decide +kernel
theorem dX11_back_13 : decode cX11_back 13 = .ok (.getfield 29, 3) := by decide +kernel
theorem dX11_back_16 : decode cX11_back 16 = .ok (.aload_n 0, 1) := by decide +kernel
theorem dX11_back_17 : decode cX11_back 17 = .ok (.getfield 43, 3) := by decide +kernel
theorem dX11_back_20 : decode cX11_back 20 = .ok (.getfield 465, 3) := by decide +kernel
theorem dX11_back_23 : decode cX11_back 23 = .ok (.invokevirtual 443, 3) := by decide +kernel
theorem dX11_back_26 : decode cX11_back 26 = .ok (.aload_n 0, 1) := by decide +kernel
theorem dX11_back_27 : decode cX11_back 27 = .ok (.getfield 19, 3) := by decide +kernel
theorem dX11_back_30 : decode cX11_back 30 = .ok (.getfield 250, 3) := by decide +kernel
theorem dX11_back_33 : decode cX11_back 33 = .ok (.aload_n 0, 1) := by decide +kernel
theorem dX11_back_34 : decode cX11_back 34 = .ok (.getfield 43, 3) := by decide +kernel
theorem dX11_back_37 : decode cX11_back 37 = .ok (.getfield 466, 3) := by decide +kernel
theorem dX11_back_40 : decode cX11_back 40 = .ok (.invokevirtual 467, 3) := by decide +kernel
theorem dX11_back_43 : decode cX11_back 43 = .ok (.aload_n 0, 1) := by decide +kernel
theorem dX11_back_44 : decode cX11_back 44 = .ok (.getfield 43, 3) := by decide +kernel
theorem dX11_back_47 : decode cX11_back 47 = .ok (.getfield 470, 3) := by decide +kernel
theorem dX11_back_50 : decode cX11_back 50 = .ok (.iconst 0, 1) := by decide +kernel
theorem dX11_back_51 : decode cX11_back 51 = .ok (.aload_n 0, 1) := by decide +kernel
theorem dX11_back_52 : decode cX11_back 52 = .ok (.getfield 19, 3) := by decide +kernel
theorem dX11_back_55 : decode cX11_back 55 = .ok (.getfield 178, 3) := by decide +kernel
theorem dX11_back_58 : decode cX11_back 58 = .ok (.iconst 0, 1) := by decide +kernel
theorem dX11_back_59 : decode cX11_back 59 = .ok (.bipush 12, 2) := by decide +kernel
theorem dX11_back_61 : decode cX11_back 61 = .ok (.invokestatic 434, 3) := by decide +kernel
theorem dX11_back_64 : decode cX11_back 64 = .ok (.aload_n 0, 1) := by decide +kernel
theorem dX11_back_65 : decode cX11_back 65 = .ok (.getfield 36, 3) := by decide +kernel
theorem dX11_back_68 : decode cX11_back 68 = .ok (.invokevirtual 120, 3) := by decide +kernel
theorem dX11_back_71 : decode cX11_back 71 = .ok (.aload_n 0, 1) := by decide +kernel
theorem dX11_back_72 : decode cX11_back 72 = .ok (.invokevirtual 124, 3) := by decide +kernel
theorem dX11_back_75 : decode cX11_back 75 = .ok (.aload_n 0, 1) := by decide +kernel
theorem dX11_back_76 : decode cX11_back 76 = .ok (.getfield 29, 3) := by decide +kernel
theorem dX11_back_79 : decode cX11_back 79 = .ok (.getfield 273, 3) := by decide +kernel
theorem dX11_back_82 : decode cX11_back 82 = .ok (.ireturn, 1) := by decide +kernel
theorem dX11_count_0 : decode cX11_count 0 = .ok (.iload_n 1, 1) := by decide +kernel
theorem dX11_count_1 : decode cX11_count 1 = .ok (.tableswitch 152 0 10 #[59, 67, 75, 86, 94, 102, 110, 119, 128, 136, 144], 59) := by decide +kernel
theorem dX11_count_60 : decode cX11_count 60 = .ok (.aload_n 0, 1) := by decide +kernel
theorem dX11_count_61 : decode cX11_count 61 = .ok (.getfield 19, 3) := by decide +kernel
theorem dX11_count_64 : decode cX11_count 64 = .ok (.getfield 392, 3) := by decide +kernel
theorem dX11_count_67 : decode cX11_count 67 = .ok (.ireturn, 1) := by decide +kernel
theorem dX11_count_68 : decode cX11_count 68 = .ok (.aload_n 0, 1) := by decide +kernel
theorem dX11_count_69 : decode cX11_count 69 = .ok (.getfield 19, 3) := by decide +kernel
theorem dX11_count_72 : decode cX11_count 72 = .ok (.getfield 324, 3) := by decide +kernel
theorem dX11_count_75 : decode cX11_count 75 = .ok (.ireturn, 1) := by decide +kernel
theorem dX11_count_76 : decode cX11_count 76 = .ok (.aload_n 0, 1) := by decide +kernel
theorem dX11_count_77 : decode cX11_count 77 = .ok (.getfield 19, 3) := by decide +kernel
theorem dX11_count_80 : decode cX11_count 80 = .ok (.getfield 250, 3) := by decide +kernel
theorem dX11_count_83 : decode cX11_count 83 = .ok (.getfield 253, 3) := by decide +kernel
theorem dX11_count_86 : decode cX11_count 86 = .ok (.ireturn, 1) := by decide +kernel
theorem dX11_count_87 : decode cX11_count 87 = .ok (.aload_n 0, 1) := by decide +kernel
theorem dX11_count_88 : decode cX11_count 88 = .ok (.getfield 29, 3) := by decide +kernel
theorem dX11_count_91 : decode cX11_count 91 = .ok (.getfield 273, 3) := by decide +kernel
theorem dX11_count_94 : decode cX11_count 94 = .ok (.ireturn, 1) := by decide +kernel
theorem dX11_count_95 : decode cX11_count 95 = .ok (.aload_n 0, 1) := by decide +kernel
theorem dX11_count_96 : decode cX11_count 96 = .ok (.getfield 19, 3) := by decide +kernel
theorem dX11_count_99 : decode cX11_count 99 = .ok (.getfield 217, 3) := by decide +kernel
theorem dX11_count_102 : decode cX11_count 102 = .ok (.ireturn, 1) := by decide +kernel
theorem dX11_count_103 : decode cX11_count 103 = .ok (.aload_n 0, 1) := by decide +kernel
theorem dX11_count_104 : decode cX11_count 104 = .ok (.getfield 19, 3) := by decide +kernel
theorem dX11_count_107 : decode cX11_count 107 = .ok (.getfield 471, 3) := by decide +kernel
theorem dX11_count_110 : decode cX11_count 110 = .ok (.ireturn, 1) := by decide +kernel
theorem dX11_count_111 : decode cX11_count 111 = .ok (.aload_n 0, 1) := by decide +kernel
theorem dX11_count_112 : decode cX11_count 112 = .ok (.getfield 19, 3) := by decide +kernel
theorem dX11_count_115 : decode cX11_count 115 = .ok (.iconst (-1), 1) := by decide +kernel
theorem dX11_count_116 : decode cX11_count 116 = .ok (.invokevirtual 474, 3) := by decide +kernel
theorem dX11_count_119 : decode cX11_count 119 = .ok (.ireturn, 1) := by decide +kernel
theorem dX11_count_120 : decode cX11_count 120 = .ok (.aload_n 0, 1) := by decide +kernel
theorem dX11_count_121 : decode cX11_count 121 = .ok (.getfield 19, 3) := by decide +kernel
theorem dX11_count_124 : decode cX11_count 124 = .ok (.iconst 1, 1) := by decide +kernel
theorem dX11_count_125 : decode cX11_count 125 = .ok (.invokevirtual 474, 3) := by decide +kernel
theorem dX11_count_128 : decode cX11_count 128 = .ok (.ireturn, 1) := by decide +kernel
theorem dX11_count_129 : decode cX11_count 129 = .ok (.aload_n 0, 1) := by decide +kernel
theorem dX11_count_130 : decode cX11_count 130 = .ok (.getfield 36, 3) := by decide +kernel
theorem dX11_count_133 : decode cX11_count 133 = .ok (.getfield 458, 3) := by decide +kernel
theorem dX11_count_136 : decode cX11_count 136 = .ok (.ireturn, 1) := by decide +kernel
theorem dX11_count_137 : decode cX11_count 137 = .ok (.aload_n 0, 1) := by decide +kernel
theorem dX11_count_138 : decode cX11_count 138 = .ok (.getfield 10, 3) := by decide +kernel
theorem dX11_count_141 : decode cX11_count 141 = .ok (.getfield 105, 3) := by decide +kernel
theorem dX11_count_144 : decode cX11_count 144 = .ok (.ireturn, 1) := by decide +kernel
theorem dX11_count_145 : decode cX11_count 145 = .ok (.aload_n 0, 1) := by decide +kernel
theorem dX11_count_146 : decode cX11_count 146 = .ok (.getfield 19, 3) := by decide +kernel
theorem dX11_count_149 : decode cX11_count 149 = .ok (.getfield 428, 3) := by decide +kernel
theorem dX11_count_152 : decode cX11_count 152 = .ok (.ireturn, 1) := by decide +kernel
theorem dX11_count_153 : decode cX11_count 153 = .ok (.iconst (-1), 1) := by decide +kernel
theorem dX11_count_154 : decode cX11_count 154 = .ok (.ireturn, 1) := by decide +kernel
theorem dX11_forgetNet_0 : decode cX11_forgetNet 0 = .ok (.aload_n 0, 1) := by decide +kernel
theorem dX11_forgetNet_1 : decode cX11_forgetNet 1 = .ok (.iconst 0, 1) := by decide +kernel
theorem dX11_forgetNet_2 : decode cX11_forgetNet 2 = .ok (.putfield 98, 3) := by decide +kernel
theorem dX11_forgetNet_5 : decode cX11_forgetNet 5 = .ok (.aload_n 0, 1) := by decide +kernel
theorem dX11_forgetNet_6 : decode cX11_forgetNet 6 = .ok (.iconst 0, 1) := by decide +kernel
theorem dX11_forgetNet_7 : decode cX11_forgetNet 7 = .ok (.putfield 102, 3) := by decide +kernel
theorem dX11_forgetNet_10 : decode cX11_forgetNet 10 = .ok (.return_, 1) := by decide +kernel
theorem dX11_refreshNet_0 : decode cX11_refreshNet 0 = .ok (.aload_n 0, 1) := by decide +kernel
theorem dX11_refreshNet_1 : decode cX11_refreshNet 1 = .ok (.getfield 98, 3) := by decide +kernel
theorem dX11_refreshNet_4 : decode cX11_refreshNet 4 = .ok (.ifCond .ne 59, 3) := by decide +kernel
theorem dX11_refreshNet_7 : decode cX11_refreshNet 7 = .ok (.aload_n 0, 1) := by decide +kernel
theorem dX11_refreshNet_8 : decode cX11_refreshNet 8 = .ok (.getfield 57, 3) := by decide +kernel
theorem dX11_refreshNet_11 : decode cX11_refreshNet 11 = .ok (.aload_n 0, 1) := by decide +kernel
theorem dX11_refreshNet_12 : decode cX11_refreshNet 12 = .ok (.getfield 19, 3) := by decide +kernel
theorem dX11_refreshNet_15 : decode cX11_refreshNet 15 = .ok (.aload_n 0, 1) := by decide +kernel
theorem dX11_refreshNet_16 : decode cX11_refreshNet 16 = .ok (.getfield 19, 3) := by decide +kernel
theorem dX11_refreshNet_19 : decode cX11_refreshNet 19 = .ok (.getfield 217, 3) := by decide +kernel
theorem dX11_refreshNet_22 : decode cX11_refreshNet 22 = .ok (.aload_n 0, 1) := by decide +kernel
theorem dX11_refreshNet_23 : decode cX11_refreshNet 23 = .ok (.getfield 50, 3) := by decide +kernel
theorem dX11_refreshNet_26 : decode cX11_refreshNet 26 = .ok (.invokevirtual 424, 3) := by decide +kernel
theorem dX11_refreshNet_29 : decode cX11_refreshNet 29 = .ok (.aload_n 0, 1) := by decide +kernel
theorem dX11_refreshNet_30 : decode cX11_refreshNet 30 = .ok (.getfield 64, 3) := by decide +kernel
theorem dX11_refreshNet_33 : decode cX11_refreshNet 33 = .ok (.aload_n 0, 1) := by decide +kernel
theorem dX11_refreshNet_34 : decode cX11_refreshNet 34 = .ok (.getfield 19, 3) := by decide +kernel
theorem dX11_refreshNet_37 : decode cX11_refreshNet 37 = .ok (.aload_n 0, 1) := by decide +kernel
theorem dX11_refreshNet_38 : decode cX11_refreshNet 38 = .ok (.getfield 57, 3) := by decide +kernel
theorem dX11_refreshNet_41 : decode cX11_refreshNet 41 = .ok (.aload_n 0, 1) := by decide +kernel
theorem dX11_refreshNet_42 : decode cX11_refreshNet 42 = .ok (.getfield 19, 3) := by decide +kernel
theorem dX11_refreshNet_45 : decode cX11_refreshNet 45 = .ok (.getfield 428, 3) := by decide +kernel
theorem dX11_refreshNet_48 : decode cX11_refreshNet 48 = .ok (.aload_n 0, 1) := by decide +kernel
theorem dX11_refreshNet_49 : decode cX11_refreshNet 49 = .ok (.getfield 19, 3) := by decide +kernel
theorem dX11_refreshNet_52 : decode cX11_refreshNet 52 = .ok (.getfield 172, 3) := by decide +kernel
theorem dX11_refreshNet_55 : decode cX11_refreshNet 55 = .ok (.invokevirtual 440, 3) := by decide +kernel
theorem dX11_refreshNet_58 : decode cX11_refreshNet 58 = .ok (.aload_n 0, 1) := by decide +kernel
theorem dX11_refreshNet_59 : decode cX11_refreshNet 59 = .ok (.iconst 1, 1) := by decide +kernel
theorem dX11_refreshNet_60 : decode cX11_refreshNet 60 = .ok (.putfield 98, 3) := by decide +kernel
theorem dX11_refreshNet_63 : decode cX11_refreshNet 63 = .ok (.return_, 1) := by decide +kernel
theorem dX11_refreshFlow_0 : decode cX11_refreshFlow 0 = .ok (.aload_n 0, 1) := by decide +kernel
theorem dX11_refreshFlow_1 : decode cX11_refreshFlow 1 = .ok (.invokevirtual 233, 3) := by decide +kernel
theorem dX11_refreshFlow_4 : decode cX11_refreshFlow 4 = .ok (.aload_n 0, 1) := by decide +kernel
theorem dX11_refreshFlow_5 : decode cX11_refreshFlow 5 = .ok (.getfield 102, 3) := by decide +kernel
theorem dX11_refreshFlow_8 : decode cX11_refreshFlow 8 = .ok (.ifCond .ne 35, 3) := by decide +kernel
theorem dX11_refreshFlow_11 : decode cX11_refreshFlow 11 = .ok (.aload_n 0, 1) := by decide +kernel
theorem dX11_refreshFlow_12 : decode cX11_refreshFlow 12 = .ok (.getfield 71, 3) := by decide +kernel
theorem dX11_refreshFlow_15 : decode cX11_refreshFlow 15 = .ok (.aload_n 0, 1) := by decide +kernel
theorem dX11_refreshFlow_16 : decode cX11_refreshFlow 16 = .ok (.getfield 19, 3) := by decide +kernel
theorem dX11_refreshFlow_19 : decode cX11_refreshFlow 19 = .ok (.aload_n 0, 1) := by decide +kernel
theorem dX11_refreshFlow_20 : decode cX11_refreshFlow 20 = .ok (.getfield 64, 3) := by decide +kernel
theorem dX11_refreshFlow_23 : decode cX11_refreshFlow 23 = .ok (.aload_n 0, 1) := by decide +kernel
theorem dX11_refreshFlow_24 : decode cX11_refreshFlow 24 = .ok (.getfield 29, 3) := by decide +kernel
theorem dX11_refreshFlow_27 : decode cX11_refreshFlow 27 = .ok (.iconst 0, 1) := by decide +kernel
theorem dX11_refreshFlow_28 : decode cX11_refreshFlow 28 = .ok (.invokevirtual 405, 3) := by decide +kernel
theorem dX11_refreshFlow_31 : decode cX11_refreshFlow 31 = .ok (.aload_n 0, 1) := by decide +kernel
theorem dX11_refreshFlow_32 : decode cX11_refreshFlow 32 = .ok (.getfield 71, 3) := by decide +kernel
theorem dX11_refreshFlow_35 : decode cX11_refreshFlow 35 = .ok (.invokevirtual 408, 3) := by decide +kernel
theorem dX11_refreshFlow_38 : decode cX11_refreshFlow 38 = .ok (.aload_n 0, 1) := by decide +kernel
theorem dX11_refreshFlow_39 : decode cX11_refreshFlow 39 = .ok (.iconst 1, 1) := by decide +kernel
theorem dX11_refreshFlow_40 : decode cX11_refreshFlow 40 = .ok (.putfield 102, 3) := by decide +kernel
theorem dX11_refreshFlow_43 : decode cX11_refreshFlow 43 = .ok (.return_, 1) := by decide +kernel
theorem dX11_isLink_0 : decode cX11_isLink 0 = .ok (.aload_n 0, 1) := by decide +kernel
theorem dX11_isLink_1 : decode cX11_isLink 1 = .ok (.getfield 19, 3) := by decide +kernel
theorem dX11_isLink_4 : decode cX11_isLink 4 = .ok (.iload_n 1, 1) := by decide +kernel
theorem dX11_isLink_5 : decode cX11_isLink 5 = .ok (.invokevirtual 165, 3) := by decide +kernel
theorem dX11_isLink_8 : decode cX11_isLink 8 = .ok (.ifCond .eq 14, 3) := by decide +kernel
theorem dX11_isLink_11 : decode cX11_isLink 11 = .ok (.aload_n 0, 1) := by decide +kernel
theorem dX11_isLink_12 : decode cX11_isLink 12 = .ok (.getfield 19, 3) := by decide +kernel
theorem dX11_isLink_15 : decode cX11_isLink 15 = .ok (.iload_n 2, 1) := by decide +kernel
theorem dX11_isLink_16 : decode cX11_isLink 16 = .ok (.invokevirtual 165, 3) := by decide +kernel
theorem dX11_isLink_19 : decode cX11_isLink 19 = .ok (.ifCond .ne 5, 3) := by decide +kernel
theorem dX11_isLink_22 : decode cX11_isLink 22 = .ok (.iconst 0, 1) := by decide +kernel
theorem dX11_isLink_23 : decode cX11_isLink 23 = .ok (.ireturn, 1) := by decide +kernel
theorem dX11_isLink_24 : decode cX11_isLink 24 = .ok (.aload_n 0, 1) := by decide +kernel
theorem dX11_isLink_25 : decode cX11_isLink 25 = .ok (.invokevirtual 233, 3) := by decide +kernel
theorem dX11_isLink_28 : decode cX11_isLink 28 = .ok (.aload_n 0, 1) := by decide +kernel
theorem dX11_isLink_29 : decode cX11_isLink 29 = .ok (.getfield 64, 3) := by decide +kernel
theorem dX11_isLink_32 : decode cX11_isLink 32 = .ok (.getfield 283, 3) := by decide +kernel
theorem dX11_isLink_35 : decode cX11_isLink 35 = .ok (.iload_n 1, 1) := by decide +kernel
