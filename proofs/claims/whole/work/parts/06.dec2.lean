theorem dX11_isLink_36 : decode cX11_isLink 36 = .ok (.bipush 12, 2) := by decide +kernel
theorem dX11_isLink_38 : decode cX11_isLink 38 = .ok (.imul, 1) := by decide +kernel
theorem dX11_isLink_39 : decode cX11_isLink 39 = .ok (.iload_n 2, 1) := by decide +kernel
theorem dX11_isLink_40 : decode cX11_isLink 40 = .ok (.iadd, 1) := by decide +kernel
theorem dX11_isLink_41 : decode cX11_isLink 41 = .ok (.iaload, 1) := by decide +kernel
theorem dX11_isLink_42 : decode cX11_isLink 42 = .ok (.ifCond .lt 7, 3) := by decide +kernel
theorem dX11_isLink_45 : decode cX11_isLink 45 = .ok (.iconst 1, 1) := by decide +kernel
theorem dX11_isLink_46 : decode cX11_isLink 46 = .ok (.goto 4, 3) := by decide +kernel
theorem dX11_isLink_49 : decode cX11_isLink 49 = .ok (.iconst 0, 1) := by decide +kernel
theorem dX11_isLink_50 : decode cX11_isLink 50 = .ok (.ireturn, 1) := by decide +kernel
theorem dX11_openOf_0 : decode cX11_openOf 0 = .ok (.aload_n 0, 1) := by decide +kernel
theorem dX11_openOf_1 : decode cX11_openOf 1 = .ok (.getfield 19, 3) := by decide +kernel
theorem dX11_openOf_4 : decode cX11_openOf 4 = .ok (.getfield 178, 3) := by decide +kernel
theorem dX11_openOf_7 : decode cX11_openOf 7 = .ok (.iload_n 2, 1) := by decide +kernel
theorem dX11_openOf_8 : decode cX11_openOf 8 = .ok (.iaload, 1) := by decide +kernel
theorem dX11_openOf_9 : decode cX11_openOf 9 = .ok (.invokestatic 477, 3) := by decide +kernel
theorem dX11_openOf_12 : decode cX11_openOf 12 = .ok (.aload_n 1, 1) := by decide +kernel
theorem dX11_openOf_13 : decode cX11_openOf 13 = .ok (.iload_n 2, 1) := by decide +kernel
theorem dX11_openOf_14 : decode cX11_openOf 14 = .ok (.invokevirtual 185, 3) := by decide +kernel
theorem dX11_openOf_17 : decode cX11_openOf 17 = .ok (.isub, 1) := by decide +kernel
theorem dX11_openOf_18 : decode cX11_openOf 18 = .ok (.ireturn, 1) := by decide +kernel
theorem dX11_areMembers_0 : decode cX11_areMembers 0 = .ok (.aload_n 0, 1) := by decide +kernel
theorem dX11_areMembers_1 : decode cX11_areMembers 1 = .ok (.getfield 19, 3) := by decide +kernel
theorem dX11_areMembers_4 : decode cX11_areMembers 4 = .ok (.iload_n 1, 1) := by decide +kernel
theorem dX11_areMembers_5 : decode cX11_areMembers 5 = .ok (.invokevirtual 140, 3) := by decide +kernel
theorem dX11_areMembers_8 : decode cX11_areMembers 8 = .ok (.ifCond .eq 18, 3) := by decide +kernel
theorem dX11_areMembers_11 : decode cX11_areMembers 11 = .ok (.aload_n 0, 1) := by decide +kernel
theorem dX11_areMembers_12 : decode cX11_areMembers 12 = .ok (.getfield 19, 3) := by decide +kernel
theorem dX11_areMembers_15 : decode cX11_areMembers 15 = .ok (.iload_n 2, 1) := by decide +kernel
theorem dX11_areMembers_16 : decode cX11_areMembers 16 = .ok (.invokevirtual 140, 3) := by decide +kernel
theorem dX11_areMembers_19 : decode cX11_areMembers 19 = .ok (.ifCond .eq 7, 3) := by decide +kernel
theorem dX11_areMembers_22 : decode cX11_areMembers 22 = .ok (.iconst 1, 1) := by decide +kernel
theorem dX11_areMembers_23 : decode cX11_areMembers 23 = .ok (.goto 4, 3) := by decide +kernel
theorem dX11_areMembers_26 : decode cX11_areMembers 26 = .ok (.iconst 0, 1) := by decide +kernel
theorem dX11_areMembers_27 : decode cX11_areMembers 27 = .ok (.ireturn, 1) := by decide +kernel
theorem dX11_isPair_0 : decode cX11_isPair 0 = .ok (.iload_n 1, 1) := by decide +kernel
theorem dX11_isPair_1 : decode cX11_isPair 1 = .ok (.iload_n 2, 1) := by decide +kernel
theorem dX11_isPair_2 : decode cX11_isPair 2 = .ok (.if_icmp .eq 16, 3) := by decide +kernel
theorem dX11_isPair_5 : decode cX11_isPair 5 = .ok (.aload_n 0, 1) := by decide +kernel
theorem dX11_isPair_6 : decode cX11_isPair 6 = .ok (.iload_n 1, 1) := by decide +kernel
theorem dX11_isPair_7 : decode cX11_isPair 7 = .ok (.iload_n 2, 1) := by decide +kernel
theorem dX11_isPair_8 : decode cX11_isPair 8 = .ok (.invokevirtual 202, 3) := by decide +kernel
theorem dX11_isPair_11 : decode cX11_isPair 11 = .ok (.ifCond .eq 7, 3) := by decide +kernel
theorem dX11_isPair_14 : decode cX11_isPair 14 = .ok (.iconst 1, 1) := by decide +kernel
theorem dX11_isPair_15 : decode cX11_isPair 15 = .ok (.goto 4, 3) := by decide +kernel
theorem dX11_isPair_18 : decode cX11_isPair 18 = .ok (.iconst 0, 1) := by decide +kernel
theorem dX11_isPair_19 : decode cX11_isPair 19 = .ok (.ireturn, 1) := by decide +kernel
theorem dX11_isDay_0 : decode cX11_isDay 0 = .ok (.iload_n 0, 1) := by decide +kernel
theorem dX11_isDay_1 : decode cX11_isDay 1 = .ok (.ifCond .lt 14, 3) := by decide +kernel
theorem dX11_isDay_4 : decode cX11_isDay 4 = .ok (.iload_n 0, 1) := by decide +kernel
theorem dX11_isDay_5 : decode cX11_isDay 5 = .ok (.sipush 999, 3) := by decide +kernel
theorem dX11_isDay_8 : decode cX11_isDay 8 = .ok (.if_icmp .gt 7, 3) := by decide +kernel
theorem dX11_isDay_11 : decode cX11_isDay 11 = .ok (.iconst 1, 1) := by decide +kernel
theorem dX11_isDay_12 : decode cX11_isDay 12 = .ok (.goto 4, 3) := by decide +kernel
theorem dX11_isDay_15 : decode cX11_isDay 15 = .ok (.iconst 0, 1) := by decide +kernel
theorem dX11_isDay_16 : decode cX11_isDay 16 = .ok (.ireturn, 1) := by decide +kernel
theorem dX11_bitsOf_0 : decode cX11_bitsOf 0 = .ok (.fload_n 0, 1) := by decide +kernel
theorem dX11_bitsOf_1 : decode cX11_bitsOf 1 = .ok (.fconst 0, 1) := by decide +kernel
theorem dX11_bitsOf_2 : decode cX11_bitsOf 2 = .ok (.fcmp .l, 1) := by decide +kernel
theorem dX11_bitsOf_3 : decode cX11_bitsOf 3 = .ok (.ifCond .gt 5, 3) := by decide +kernel
theorem dX11_bitsOf_6 : decode cX11_bitsOf 6 = .ok (.iconst 0, 1) := by decide +kernel
theorem dX11_bitsOf_7 : decode cX11_bitsOf 7 = .ok (.ireturn, 1) := by decide +kernel
theorem dX11_bitsOf_8 : decode cX11_bitsOf 8 = .ok (.fload_n 0, 1) := by decide +kernel
theorem dX11_bitsOf_9 : decode cX11_bitsOf 9 = .ok (.fstore_n 1, 1) := by decide +kernel
theorem dX11_bitsOf_10 : decode cX11_bitsOf 10 = .ok (.bipush 127, 2) := by decide +kernel
theorem dX11_bitsOf_12 : decode cX11_bitsOf 12 = .ok (.istore_n 2, 1) := by decide +kernel
theorem dX11_bitsOf_13 : decode cX11_bitsOf 13 = .ok (.iconst 0, 1) := by decide +kernel
theorem dX11_bitsOf_14 : decode cX11_bitsOf 14 = .ok (.istore_n 3, 1) := by decide +kernel
theorem dX11_bitsOf_15 : decode cX11_bitsOf 15 = .ok (.iload_n 3, 1) := by decide +kernel
theorem dX11_bitsOf_16 : decode cX11_bitsOf 16 = .ok (.bipush 127, 2) := by decide +kernel
theorem dX11_bitsOf_18 : decode cX11_bitsOf 18 = .ok (.if_icmp .ge 22, 3) := by decide +kernel
theorem dX11_bitsOf_21 : decode cX11_bitsOf 21 = .ok (.fload_n 1, 1) := by decide +kernel
theorem dX11_bitsOf_22 : decode cX11_bitsOf 22 = .ok (.fconst 2, 1) := by decide +kernel
theorem dX11_bitsOf_23 : decode cX11_bitsOf 23 = .ok (.fcmp .l, 1) := by decide +kernel
theorem dX11_bitsOf_24 : decode cX11_bitsOf 24 = .ok (.ifCond .lt 16, 3) := by decide +kernel
theorem dX11_bitsOf_27 : decode cX11_bitsOf 27 = .ok (.fload_n 1, 1) := by decide +kernel
theorem dX11_bitsOf_28 : decode cX11_bitsOf 28 = .ok (.fconst 2, 1) := by decide +kernel
theorem dX11_bitsOf_29 : decode cX11_bitsOf 29 = .ok (.fdiv, 1) := by decide +kernel
theorem dX11_bitsOf_30 : decode cX11_bitsOf 30 = .ok (.fstore_n 1, 1) := by decide +kernel
theorem dX11_bitsOf_31 : decode cX11_bitsOf 31 = .ok (.iinc 2 1, 3) := by decide +kernel
theorem dX11_bitsOf_34 : decode cX11_bitsOf 34 = .ok (.iinc 3 1, 3) := by decide +kernel
theorem dX11_bitsOf_37 : decode cX11_bitsOf 37 = .ok (.goto (-22), 3) := by decide +kernel
theorem dX11_bitsOf_40 : decode cX11_bitsOf 40 = .ok (.iconst 0, 1) := by decide +kernel
theorem dX11_bitsOf_41 : decode cX11_bitsOf 41 = .ok (.istore_n 3, 1) := by decide +kernel
theorem dX11_bitsOf_42 : decode cX11_bitsOf 42 = .ok (.iload_n 3, 1) := by decide +kernel
theorem dX11_bitsOf_43 : decode cX11_bitsOf 43 = .ok (.bipush 126, 2) := by decide +kernel
theorem dX11_bitsOf_45 : decode cX11_bitsOf 45 = .ok (.if_icmp .ge 22, 3) := by decide +kernel
theorem dX11_bitsOf_48 : decode cX11_bitsOf 48 = .ok (.fload_n 1, 1) := by decide +kernel
theorem dX11_bitsOf_49 : decode cX11_bitsOf 49 = .ok (.fconst 1, 1) := by decide +kernel
theorem dX11_bitsOf_50 : decode cX11_bitsOf 50 = .ok (.fcmp .g, 1) := by decide +kernel
theorem dX11_bitsOf_51 : decode cX11_bitsOf 51 = .ok (.ifCond .ge 16, 3) := by decide +kernel
theorem dX11_bitsOf_54 : decode cX11_bitsOf 54 = .ok (.fload_n 1, 1) := by decide +kernel
theorem dX11_bitsOf_55 : decode cX11_bitsOf 55 = .ok (.fconst 2, 1) := by decide +kernel
theorem dX11_bitsOf_56 : decode cX11_bitsOf 56 = .ok (.fmul, 1) := by decide +kernel
theorem dX11_bitsOf_57 : decode cX11_bitsOf 57 = .ok (.fstore_n 1, 1) := by decide +kernel
theorem dX11_bitsOf_58 : decode cX11_bitsOf 58 = .ok (.iinc 2 (-1), 3) := by decide +kernel
theorem dX11_bitsOf_61 : decode cX11_bitsOf 61 = .ok (.iinc 3 1, 3) := by decide +kernel
theorem dX11_bitsOf_64 : decode cX11_bitsOf 64 = .ok (.goto (-22), 3) := by decide +kernel
theorem dX11_bitsOf_67 : decode cX11_bitsOf 67 = .ok (.iload_n 2, 1) := by decide +kernel
theorem dX11_bitsOf_68 : decode cX11_bitsOf 68 = .ok (.bipush 23, 2) := by decide +kernel
theorem dX11_bitsOf_70 : decode cX11_bitsOf 70 = .ok (.ishl, 1) := by decide +kernel
theorem dX11_bitsOf_71 : decode cX11_bitsOf 71 = .ok (.fload_n 1, 1) := by decide +kernel
theorem dX11_bitsOf_72 : decode cX11_bitsOf 72 = .ok (.fconst 1, 1) := by decide +kernel
theorem dX11_bitsOf_73 : decode cX11_bitsOf 73 = .ok (.fsub, 1) := by decide +kernel
theorem dX11_bitsOf_74 : decode cX11_bitsOf 74 = .ok (.ldc_w 480, 3) := by decide +kernel
theorem dX11_bitsOf_77 : decode cX11_bitsOf 77 = .ok (.fmul, 1) := by decide +kernel
theorem dX11_bitsOf_78 : decode cX11_bitsOf 78 = .ok (.f2i, 1) := by decide +kernel
theorem dX11_bitsOf_79 : decode cX11_bitsOf 79 = .ok (.ior, 1) := by decide +kernel
theorem dX11_bitsOf_80 : decode cX11_bitsOf 80 = .ok (.ireturn, 1) := by decide +kernel
theorem dX12_init_0 : decode cX12_init 0 = .ok (.aload_n 0, 1) := by decide +kernel
theorem dX12_init_1 : decode cX12_init 1 = .ok (.invokespecial 1, 3) := by decide +kernel
theorem dX12_init_4 : decode cX12_init 4 = .ok (.aload_n 0, 1) := by decide +kernel
theorem dX12_init_5 : decode cX12_init 5 = .ok (.sipush 700, 3) := by decide +kernel
theorem dX12_init_8 : decode cX12_init 8 = .ok (.newarray .int, 2) := by decide +kernel
theorem dX12_init_10 : decode cX12_init 10 = .ok (.putfield 7, 3) := by decide +kernel
theorem dX12_init_13 : decode cX12_init 13 = .ok (.aload_n 0, 1) := by decide +kernel
theorem dX12_init_14 : decode cX12_init 14 = .ok (.bipush 41, 2) := by decide +kernel
theorem dX12_init_16 : decode cX12_init 16 = .ok (.newarray .int, 2) := by decide +kernel
theorem dX12_init_18 : decode cX12_init 18 = .ok (.dup, 1) := by decide +kernel
theorem dX12_init_19 : decode cX12_init 19 = .ok (.iconst 0, 1) := by decide +kernel
theorem dX12_init_20 : decode cX12_init 20 = .ok (.bipush 109, 2) := by decide +kernel
theorem dX12_init_22 : decode cX12_init 22 = .ok (.iastore, 1) := by decide +kernel
theorem dX12_init_23 : decode cX12_init 23 = .ok (.dup, 1) := by decide +kernel
theorem dX12_init_24 : decode cX12_init 24 = .ok (.iconst 1, 1) := by decide +kernel
theorem dX12_init_25 : decode cX12_init 25 = .ok (.bipush 101, 2) := by decide +kernel
theorem dX12_init_27 : decode cX12_init 27 = .ok (.iastore, 1) := by decide +kernel
theorem dX12_init_28 : decode cX12_init 28 = .ok (.dup, 1) := by decide +kernel
theorem dX12_init_29 : decode cX12_init 29 = .ok (.iconst 2, 1) := by decide +kernel
theorem dX12_init_30 : decode cX12_init 30 = .ok (.bipush 109, 2) := by decide +kernel
theorem dX12_init_32 : decode cX12_init 32 = .ok (.iastore, 1) := by decide +kernel
theorem dX12_init_33 : decode cX12_init 33 = .ok (.dup, 1) := by decide +kernel
theorem dX12_init_34 : decode cX12_init 34 = .ok (.iconst 3, 1) := by decide +kernel
theorem dX12_init_35 : decode cX12_init 35 = .ok (.bipush 98, 2) := by decide +kernel
theorem dX12_init_37 : decode cX12_init 37 = .ok (.iastore, 1) := by decide +kernel
theorem dX12_init_38 : decode cX12_init 38 = .ok (.dup, 1) := by decide +kernel
theorem dX12_init_39 : decode cX12_init 39 = .ok (.iconst 4, 1) := by decide +kernel
theorem dX12_init_40 : decode cX12_init 40 = .ok (.bipush 101, 2) := by decide +kernel
theorem dX12_init_42 : decode cX12_init 42 = .ok (.iastore, 1) := by decide +kernel
theorem dX12_init_43 : decode cX12_init 43 = .ok (.dup, 1) := by decide +kernel
theorem dX12_init_44 : decode cX12_init 44 = .ok (.iconst 5, 1) := by decide +kernel
theorem dX12_init_45 : decode cX12_init 45 = .ok (.bipush 114, 2) := by decide +kernel
theorem dX12_init_47 : decode cX12_init 47 = .ok (.iastore, 1) := by decide +kernel
theorem dX12_init_48 : decode cX12_init 48 = .ok (.dup, 1) := by decide +kernel
theorem dX12_init_49 : decode cX12_init 49 = .ok (.bipush 6, 2) := by decide +kernel
theorem dX12_init_51 : decode cX12_init 51 = .ok (.bipush 32, 2) := by decide +kernel
theorem dX12_init_53 : decode cX12_init 53 = .ok (.iastore, 1) := by decide +kernel
theorem dX12_init_54 : decode cX12_init 54 = .ok (.dup, 1) := by decide +kernel
theorem dX12_init_55 : decode cX12_init 55 = .ok (.bipush 7, 2) := by decide +kernel
theorem dX12_init_57 : decode cX12_init 57 = .ok (.bipush 111, 2) := by decide +kernel
theorem dX12_init_59 : decode cX12_init 59 = .ok (.iastore, 1) := by decide +kernel
theorem dX12_init_60 : decode cX12_init 60 = .ok (.dup, 1) := by decide +kernel
theorem dX12_init_61 : decode cX12_init 61 = .ok (.bipush 8, 2) := by decide +kernel
theorem dX12_init_63 : decode cX12_init 63 = .ok (.bipush 119, 2) := by decide +kernel
theorem dX12_init_65 : decode cX12_init 65 = .ok (.iastore, 1) := by decide +kernel
theorem dX12_init_66 : decode cX12_init 66 = .ok (.dup, 1) := by decide +kernel
theorem dX12_init_67 : decode cX12_init 67 = .ok (.bipush 9, 2) := by decide +kernel
theorem dX12_init_69 : decode cX12_init 69 = .ok (.bipush 110, 2) := by decide +kernel
theorem dX12_init_71 : decode cX12_init 71 = .ok (.iastore, 1) := by decide +kernel
theorem dX12_init_72 : decode cX12_init 72 = .ok (.dup, 1) := by decide +kernel
theorem dX12_init_73 : decode cX12_init 73 = .ok (.bipush 10, 2) := by decide +kernel
theorem dX12_init_75 : decode cX12_init 75 = .ok (.bipush 115, 2) := by decide +kernel
theorem dX12_init_77 : decode cX12_init 77 = .ok (.iastore, 1) := by decide +kernel
theorem dX12_init_78 : decode cX12_init 78 = .ok (.dup, 1) := by decide +kernel
theorem dX12_init_79 : decode cX12_init 79 = .ok (.bipush 11, 2) := by decide +kernel
theorem dX12_init_81 : decode cX12_init 81 = .ok (.bipush 32, 2) := by decide +kernel
theorem dX12_init_83 : decode cX12_init 83 = .ok (.iastore, 1) := by decide +kernel
theorem dX12_init_84 : decode cX12_init 84 = .ok (.dup, 1) := by decide +kernel
theorem dX12_init_85 : decode cX12_init 85 = .ok (.bipush 12, 2) := by decide +kernel
theorem dX12_init_87 : decode cX12_init 87 = .ok (.bipush 112, 2) := by decide +kernel
theorem dX12_init_89 : decode cX12_init 89 = .ok (.iastore, 1) := by decide +kernel
theorem dX12_init_90 : decode cX12_init 90 = .ok (.dup, 1) := by decide +kernel
theorem dX12_init_91 : decode cX12_init 91 = .ok (.bipush 13, 2) := by decide +kernel
theorem dX12_init_93 : decode cX12_init 93 = .ok (.bipush 101, 2) := by decide +kernel
theorem dX12_init_95 : decode cX12_init 95 = .ok (.iastore, 1) := by decide +kernel
theorem dX12_init_96 : decode cX12_init 96 = .ok (.dup, 1) := by decide +kernel
theorem dX12_init_97 : decode cX12_init 97 = .ok (.bipush 14, 2) := by decide +kernel
theorem dX12_init_99 : decode cX12_init 99 = .ok (.bipush 114, 2) := by decide +kernel
theorem dX12_init_101 : decode cX12_init 101 = .ok (.iastore, 1) := by decide +kernel
theorem dX12_init_102 : decode cX12_init 102 = .ok (.dup, 1) := by decide +kernel
theorem dX12_init_103 : decode cX12_init 103 = .ok (.bipush 15, 2) := by decide +kernel
theorem dX12_init_105 : decode cX12_init 105 = .ok (.bipush 105, 2) := by decide +kernel
theorem dX12_init_107 : decode cX12_init 107 = .ok (.iastore, 1) := by decide +kernel
theorem dX12_init_108 : decode cX12_init 108 = .ok (.dup, 1) := by decide +kernel
theorem dX12_init_109 : decode cX12_init 109 = .ok (.bipush 16, 2) := by decide +kernel
theorem dX12_init_111 : decode cX12_init 111 = .ok (.bipush 111, 2) := by decide +kernel
theorem dX12_init_113 : decode cX12_init 113 = .ok (.iastore, 1) := by decide +kernel
theorem dX12_init_114 : decode cX12_init 114 = .ok (.dup, 1) := by decide +kernel
theorem dX12_init_115 : decode cX12_init 115 = .ok (.bipush 17, 2) := by decide +kernel
theorem dX12_init_117 : decode cX12_init 117 = .ok (.bipush 100, 2) := by decide +kernel
theorem dX12_init_119 : decode cX12_init 119 = .ok (.iastore, 1) := by decide +kernel
theorem dX12_init_120 : decode cX12_init 120 = .ok (.dup, 1) := by decide +kernel
theorem dX12_init_121 : decode cX12_init 121 = .ok (.bipush 18, 2) := by decide +kernel
theorem dX12_init_123 : decode cX12_init 123 = .ok (.bipush 32, 2) := by decide +kernel
theorem dX12_init_125 : decode cX12_init 125 = .ok (.iastore, 1) := by decide +kernel
theorem dX12_init_126 : decode cX12_init 126 = .ok (.dup, 1) := by decide +kernel
theorem dX12_init_127 : decode cX12_init 127 = .ok (.bipush 19, 2) := by decide +kernel
theorem dX12_init_129 : decode cX12_init 129 = .ok (.bipush 103, 2) := by decide +kernel
theorem dX12_init_131 : decode cX12_init 131 = .ok (.iastore, 1) := by decide +kernel
theorem dX12_init_132 : decode cX12_init 132 = .ok (.dup, 1) := by decide +kernel
theorem dX12_init_133 : decode cX12_init 133 = .ok (.bipush 20, 2) := by decide +kernel
theorem dX12_init_135 : decode cX12_init 135 = .ok (.bipush 97, 2) := by decide +kernel
theorem dX12_init_137 : decode cX12_init 137 = .ok (.iastore, 1) := by decide +kernel
theorem dX12_init_138 : decode cX12_init 138 = .ok (.dup, 1) := by decide +kernel
theorem dX12_init_139 : decode cX12_init 139 = .ok (.bipush 21, 2) := by decide +kernel
theorem dX12_init_141 : decode cX12_init 141 = .ok (.bipush 116, 2) := by decide +kernel
theorem dX12_init_143 : decode cX12_init 143 = .ok (.iastore, 1) := by decide +kernel
theorem dX12_init_144 : decode cX12_init 144 = .ok (.dup, 1) := by decide +kernel
theorem dX12_init_145 : decode cX12_init 145 = .ok (.bipush 22, 2) := by decide +kernel
theorem dX12_init_147 : decode cX12_init 147 = .ok (.bipush 101, 2) := by decide +kernel
theorem dX12_init_149 : decode cX12_init 149 = .ok (.iastore, 1) := by decide +kernel
theorem dX12_init_150 : decode cX12_init 150 = .ok (.dup, 1) := by decide +kernel
theorem dX12_init_151 : decode cX12_init 151 = .ok (.bipush 23, 2) := by decide +kernel
theorem dX12_init_153 : decode cX12_init 153 = .ok (.bipush 32, 2) := by decide +kernel
theorem dX12_init_155 : decode cX12_init 155 = .ok (.iastore, 1) := by decide +kernel
theorem dX12_init_156 : decode cX12_init 156 = .ok (.dup, 1) := by decide +kernel
theorem dX12_init_157 : decode cX12_init 157 = .ok (.bipush 24, 2) := by decide +kernel
theorem dX12_init_159 : decode cX12_init 159 = .ok (.bipush 112, 2) := by decide +kernel
theorem dX12_init_161 : decode cX12_init 161 = .ok (.iastore, 1) := by decide +kernel
theorem dX12_init_162 : decode cX12_init 162 = .ok (.dup, 1) := by decide +kernel
theorem dX12_init_163 : decode cX12_init 163 = .ok (.bipush 25, 2) := by decide +kernel
theorem dX12_init_165 : decode cX12_init 165 = .ok (.bipush 114, 2) := by decide +kernel
theorem dX12_init_167 : decode cX12_init 167 = .ok (.iastore, 1) := by decide +kernel
theorem dX12_init_168 : decode cX12_init 168 = .ok (.dup, 1) := by decide +kernel
theorem dX12_init_169 : decode cX12_init 169 = .ok (.bipush 26, 2) := by decide +kernel
theorem dX12_init_171 : decode cX12_init 171 = .ok (.bipush 105, 2) := by decide +kernel
theorem dX12_init_173 : decode cX12_init 173 = .ok (.iastore, 1) := by decide +kernel
theorem dX12_init_174 : decode cX12_init 174 = .ok (.dup, 1) := by decide +kernel
theorem dX12_init_175 : decode cX12_init 175 = .ok (.bipush 27, 2) := by decide +kernel
theorem dX12_init_177 : decode cX12_init 177 = .ok (.bipush 99, 2) := by decide +kernel
theorem dX12_init_179 : decode cX12_init 179 = .ok (.iastore, 1) := by decide +kernel
theorem dX12_init_180 : decode cX12_init 180 = .ok (.dup, 1) := by decide +kernel
theorem dX12_init_181 : decode cX12_init 181 = .ok (.bipush 28, 2) := by decide +kernel
theorem dX12_init_183 : decode cX12_init 183 = .ok (.bipush 101, 2) := by decide +kernel
theorem dX12_init_185 : decode cX12_init 185 = .ok (.iastore, 1) := by decide +kernel
theorem dX12_init_186 : decode cX12_init 186 = .ok (.dup, 1) := by decide +kernel
theorem dX12_init_187 : decode cX12_init 187 = .ok (.bipush 29, 2) := by decide +kernel
theorem dX12_init_189 : decode cX12_init 189 = .ok (.bipush 32, 2) := by decide +kernel
theorem dX12_init_191 : decode cX12_init 191 = .ok (.iastore, 1) := by decide +kernel
theorem dX12_init_192 : decode cX12_init 192 = .ok (.dup, 1) := by decide +kernel
theorem dX12_init_193 : decode cX12_init 193 = .ok (.bipush 30, 2) := by decide +kernel
theorem dX12_init_195 : decode cX12_init 195 = .ok (.bipush 99, 2) := by decide +kernel
theorem dX12_init_197 : decode cX12_init 197 = .ok (.iastore, 1) := by decide +kernel
theorem dX12_init_198 : decode cX12_init 198 = .ok (.dup, 1) := by decide +kernel
theorem dX12_init_199 : decode cX12_init 199 = .ok (.bipush 31, 2) := by decide +kernel
theorem dX12_init_201 : decode cX12_init 201 = .ok (.bipush 97, 2) := by decide +kernel
theorem dX12_init_203 : decode cX12_init 203 = .ok (.iastore, 1) := by decide +kernel
theorem dX12_init_204 : decode cX12_init 204 = .ok (.dup, 1) := by decide +kernel
theorem dX12_init_205 : decode cX12_init 205 = .ok (.bipush 32, 2) := by decide +kernel
theorem dX12_init_207 : decode cX12_init 207 = .ok (.bipush 114, 2) := by decide +kernel
theorem dX12_init_209 : decode cX12_init 209 = .ok (.iastore, 1) := by decide +kernel
theorem dX12_init_210 : decode cX12_init 210 = .ok (.dup, 1) := by decide +kernel
theorem dX12_init_211 : decode cX12_init 211 = .ok (.bipush 33, 2) := by decide +kernel
theorem dX12_init_213 : decode cX12_init 213 = .ok (.bipush 114, 2) := by decide +kernel
theorem dX12_init_215 : decode cX12_init 215 = .ok (.iastore, 1) := by decide +kernel
theorem dX12_init_216 : decode cX12_init 216 = .ok (.dup, 1) := by decide +kernel
theorem dX12_init_217 : decode cX12_init 217 = .ok (.bipush 34, 2) := by decide +kernel
theorem dX12_init_219 : decode cX12_init 219 = .ok (.bipush 121, 2) := by decide +kernel
theorem dX12_init_221 : decode cX12_init 221 = .ok (.iastore, 1) := by decide +kernel
theorem dX12_init_222 : decode cX12_init 222 = .ok (.dup, 1) := by decide +kernel
theorem dX12_init_223 : decode cX12_init 223 = .ok (.bipush 35, 2) := by decide +kernel
theorem dX12_init_225 : decode cX12_init 225 = .ok (.bipush 32, 2) := by decide +kernel
theorem dX12_init_227 : decode cX12_init 227 = .ok (.iastore, 1) := by decide +kernel
theorem dX12_init_228 : decode cX12_init 228 = .ok (.dup, 1) := by decide +kernel
theorem dX12_init_229 : decode cX12_init 229 = .ok (.bipush 36, 2) := by decide +kernel
theorem dX12_init_231 : decode cX12_init 231 = .ok (.bipush 115, 2) := by decide +kernel
theorem dX12_init_233 : decode cX12_init 233 = .ok (.iastore, 1) := by decide +kernel
theorem dX12_init_234 : decode cX12_init 234 = .ok (.dup, 1) := by decide +kernel
theorem dX12_init_235 : decode cX12_init 235 = .ok (.bipush 37, 2) := by decide +kernel
theorem dX12_init_237 : decode cX12_init 237 = .ok (.bipush 101, 2) := by decide +kernel
theorem dX12_init_239 : decode cX12_init 239 = .ok (.iastore, 1) := by decide +kernel
theorem dX12_init_240 : decode cX12_init 240 = .ok (.dup, 1) := by decide +kernel
theorem dX12_init_241 : decode cX12_init 241 = .ok (.bipush 38, 2) := by decide +kernel
theorem dX12_init_243 : decode cX12_init 243 = .ok (.bipush 101, 2) := by decide +kernel
theorem dX12_init_245 : decode cX12_init 245 = .ok (.iastore, 1) := by decide +kernel
theorem dX12_init_246 : decode cX12_init 246 = .ok (.dup, 1) := by decide +kernel
theorem dX12_init_247 : decode cX12_init 247 = .ok (.bipush 39, 2) := by decide +kernel
theorem dX12_init_249 : decode cX12_init 249 = .ok (.bipush 100, 2) := by decide +kernel
theorem dX12_init_251 : decode cX12_init 251 = .ok (.iastore, 1) := by decide +kernel
theorem dX12_init_252 : decode cX12_init 252 = .ok (.dup, 1) := by decide +kernel
theorem dX12_init_253 : decode cX12_init 253 = .ok (.bipush 40, 2) := by decide +kernel
theorem dX12_init_255 : decode cX12_init 255 = .ok (.bipush 32, 2) := by decide +kernel
theorem dX12_init_257 : decode cX12_init 257 = .ok (.iastore, 1) := by decide +kernel
theorem dX12_init_258 : decode cX12_init 258 = .ok (.putfield 13, 3) := by decide +kernel
theorem dX12_init_261 : decode cX12_init 261 = .ok (.aload_n 0, 1) := by decide +kernel
theorem dX12_init_262 : decode cX12_init 262 = .ok (.iconst (-1), 1) := by decide +kernel
theorem dX12_init_263 : decode cX12_init 263 = .ok (.putfield 16, 3) := by decide +kernel
theorem dX12_init_266 : decode cX12_init 266 = .ok (.aload_n 0, 1) := by decide +kernel
theorem dX12_init_267 : decode cX12_init 267 = .ok (.bipush 48, 2) := by decide +kernel
theorem dX12_init_269 : decode cX12_init 269 = .ok (.newarray .int, 2) := by decide +kernel
theorem dX12_init_271 : decode cX12_init 271 = .ok (.putfield 20, 3) := by decide +kernel
theorem dX12_init_274 : decode cX12_init 274 = .ok (.aload_n 0, 1) := by decide +kernel
theorem dX12_init_275 : decode cX12_init 275 = .ok (.bipush 96, 2) := by decide +kernel
theorem dX12_init_277 : decode cX12_init 277 = .ok (.newarray .int, 2) := by decide +kernel
theorem dX12_init_279 : decode cX12_init 279 = .ok (.putfield 23, 3) := by decide +kernel
theorem dX12_init_282 : decode cX12_init 282 = .ok (.aload_n 0, 1) := by decide +kernel
theorem dX12_init_283 : decode cX12_init 283 = .ok (.sipush 128, 3) := by decide +kernel
theorem dX12_init_286 : decode cX12_init 286 = .ok (.newarray .int, 2) := by decide +kernel
theorem dX12_init_288 : decode cX12_init 288 = .ok (.putfield 26, 3) := by decide +kernel
theorem dX12_init_291 : decode cX12_init 291 = .ok (.aload_n 0, 1) := by decide +kernel
theorem dX12_init_292 : decode cX12_init 292 = .ok (.bipush 8, 2) := by decide +kernel
theorem dX12_init_294 : decode cX12_init 294 = .ok (.newarray .int, 2) := by decide +kernel
theorem dX12_init_296 : decode cX12_init 296 = .ok (.dup, 1) := by decide +kernel
theorem dX12_init_297 : decode cX12_init 297 = .ok (.iconst 0, 1) := by decide +kernel
theorem dX12_init_298 : decode cX12_init 298 = .ok (.bipush 75, 2) := by decide +kernel
theorem dX12_init_300 : decode cX12_init 300 = .ok (.iastore, 1) := by decide +kernel
theorem dX12_init_301 : decode cX12_init 301 = .ok (.dup, 1) := by decide +kernel
theorem dX12_init_302 : decode cX12_init 302 = .ok (.iconst 1, 1) := by decide +kernel
theorem dX12_init_303 : decode cX12_init 303 = .ok (.iconst 0, 1) := by decide +kernel
theorem dX12_init_304 : decode cX12_init 304 = .ok (.iastore, 1) := by decide +kernel
theorem dX12_init_305 : decode cX12_init 305 = .ok (.dup, 1) := by decide +kernel
theorem dX12_init_306 : decode cX12_init 306 = .ok (.iconst 2, 1) := by decide +kernel
theorem dX12_init_307 : decode cX12_init 307 = .ok (.iconst 0, 1) := by decide +kernel
theorem dX12_init_308 : decode cX12_init 308 = .ok (.iastore, 1) := by decide +kernel
theorem dX12_init_309 : decode cX12_init 309 = .ok (.dup, 1) := by decide +kernel
theorem dX12_init_310 : decode cX12_init 310 = .ok (.iconst 3, 1) := by decide +kernel
theorem dX12_init_311 : decode cX12_init 311 = .ok (.iconst 0, 1) := by decide +kernel
theorem dX12_init_312 : decode cX12_init 312 = .ok (.iastore, 1) := by decide +kernel
theorem dX12_init_313 : decode cX12_init 313 = .ok (.dup, 1) := by decide +kernel
theorem dX12_init_314 : decode cX12_init 314 = .ok (.iconst 4, 1) := by decide +kernel
theorem dX12_init_315 : decode cX12_init 315 = .ok (.bipush 75, 2) := by decide +kernel
theorem dX12_init_317 : decode cX12_init 317 = .ok (.iastore, 1) := by decide +kernel
theorem dX12_init_318 : decode cX12_init 318 = .ok (.dup, 1) := by decide +kernel
theorem dX12_init_319 : decode cX12_init 319 = .ok (.iconst 5, 1) := by decide +kernel
theorem dX12_init_320 : decode cX12_init 320 = .ok (.iconst 0, 1) := by decide +kernel
theorem dX12_init_321 : decode cX12_init 321 = .ok (.iastore, 1) := by decide +kernel
theorem dX12_init_322 : decode cX12_init 322 = .ok (.dup, 1) := by decide +kernel
theorem dX12_init_323 : decode cX12_init 323 = .ok (.bipush 6, 2) := by decide +kernel
theorem dX12_init_325 : decode cX12_init 325 = .ok (.iconst 0, 1) := by decide +kernel
theorem dX12_init_326 : decode cX12_init 326 = .ok (.iastore, 1) := by decide +kernel
theorem dX12_init_327 : decode cX12_init 327 = .ok (.dup, 1) := by decide +kernel
theorem dX12_init_328 : decode cX12_init 328 = .ok (.bipush 7, 2) := by decide +kernel
theorem dX12_init_330 : decode cX12_init 330 = .ok (.iconst 0, 1) := by decide +kernel
theorem dX12_init_331 : decode cX12_init 331 = .ok (.iastore, 1) := by decide +kernel
theorem dX12_init_332 : decode cX12_init 332 = .ok (.putfield 29, 3) := by decide +kernel
theorem dX12_init_335 : decode cX12_init 335 = .ok (.aload_n 0, 1) := by decide +kernel
theorem dX12_init_336 : decode cX12_init 336 = .ok (.sipush 4600, 3) := by decide +kernel
theorem dX12_init_339 : decode cX12_init 339 = .ok (.newarray .int, 2) := by decide +kernel
theorem dX12_init_341 : decode cX12_init 341 = .ok (.putfield 32, 3) := by decide +kernel
theorem dX12_init_344 : decode cX12_init 344 = .ok (.aload_n 0, 1) := by decide +kernel
theorem dX12_init_345 : decode cX12_init 345 = .ok (.bipush 64, 2) := by decide +kernel
theorem dX12_init_347 : decode cX12_init 347 = .ok (.newarray .float, 2) := by decide +kernel
theorem dX12_init_349 : decode cX12_init 349 = .ok (.putfield 35, 3) := by decide +kernel
theorem dX12_init_352 : decode cX12_init 352 = .ok (.aload_n 0, 1) := by decide +kernel
theorem dX12_init_353 : decode cX12_init 353 = .ok (.bipush 26, 2) := by decide +kernel
theorem dX12_init_355 : decode cX12_init 355 = .ok (.newarray .int, 2) := by decide +kernel
theorem dX12_init_357 : decode cX12_init 357 = .ok (.putfield 39, 3) := by decide +kernel
theorem dX12_init_360 : decode cX12_init 360 = .ok (.aload_n 0, 1) := by decide +kernel
theorem dX12_init_361 : decode cX12_init 361 = .ok (.sipush 208, 3) := by decide +kernel
theorem dX12_init_364 : decode cX12_init 364 = .ok (.newarray .int, 2) := by decide +kernel
theorem dX12_init_366 : decode cX12_init 366 = .ok (.putfield 42, 3) := by decide +kernel
theorem dX12_init_369 : decode cX12_init 369 = .ok (.aload_n 0, 1) := by decide +kernel
theorem dX12_init_370 : decode cX12_init 370 = .ok (.iconst (-1), 1) := by decide +kernel
theorem dX12_init_371 : decode cX12_init 371 = .ok (.putfield 45, 3) := by decide +kernel
theorem dX12_init_374 : decode cX12_init 374 = .ok (.aload_n 0, 1) := by decide +kernel
theorem dX12_init_375 : decode cX12_init 375 = .ok (.bipush 12, 2) := by decide +kernel
theorem dX12_init_377 : decode cX12_init 377 = .ok (.newarray .int, 2) := by decide +kernel
theorem dX12_init_379 : decode cX12_init 379 = .ok (.putfield 48, 3) := by decide +kernel
theorem dX12_init_382 : decode cX12_init 382 = .ok (.aload_n 0, 1) := by decide +kernel
theorem dX12_init_383 : decode cX12_init 383 = .ok (.sipush 144, 3) := by decide +kernel
theorem dX12_init_386 : decode cX12_init 386 = .ok (.newarray .int, 2) := by decide +kernel
theorem dX12_init_388 : decode cX12_init 388 = .ok (.putfield 51, 3) := by decide +kernel
theorem dX12_init_391 : decode cX12_init 391 = .ok (.aload_n 0, 1) := by decide +kernel
theorem dX12_init_392 : decode cX12_init 392 = .ok (.sipush 144, 3) := by decide +kernel
theorem dX12_init_395 : decode cX12_init 395 = .ok (.newarray .int, 2) := by decide +kernel
theorem dX12_init_397 : decode cX12_init 397 = .ok (.putfield 54, 3) := by decide +kernel
theorem dX12_init_400 : decode cX12_init 400 = .ok (.aload_n 0, 1) := by decide +kernel
theorem dX12_init_401 : decode cX12_init 401 = .ok (.iconst (-1), 1) := by decide +kernel
theorem dX12_init_402 : decode cX12_init 402 = .ok (.putfield 57, 3) := by decide +kernel
theorem dX12_init_405 : decode cX12_init 405 = .ok (.aload_n 0, 1) := by decide +kernel
theorem dX12_init_406 : decode cX12_init 406 = .ok (.bipush 12, 2) := by decide +kernel
theorem dX12_init_408 : decode cX12_init 408 = .ok (.newarray .int, 2) := by decide +kernel
theorem dX12_init_410 : decode cX12_init 410 = .ok (.putfield 60, 3) := by decide +kernel
theorem dX12_init_413 : decode cX12_init 413 = .ok (.aload_n 0, 1) := by decide +kernel
theorem dX12_init_414 : decode cX12_init 414 = .ok (.bipush 12, 2) := by decide +kernel
theorem dX12_init_416 : decode cX12_init 416 = .ok (.newarray .int, 2) := by decide +kernel
theorem dX12_init_418 : decode cX12_init 418 = .ok (.putfield 63, 3) := by decide +kernel
theorem dX12_init_421 : decode cX12_init 421 = .ok (.aload_n 0, 1) := by decide +kernel
theorem dX12_init_422 : decode cX12_init 422 = .ok (.sipush 156, 3) := by decide +kernel
theorem dX12_init_425 : decode cX12_init 425 = .ok (.newarray .int, 2) := by decide +kernel
theorem dX12_init_427 : decode cX12_init 427 = .ok (.putfield 66, 3) := by decide +kernel
theorem dX12_init_430 : decode cX12_init 430 = .ok (.aload_n 0, 1) := by decide +kernel
theorem dX12_init_431 : decode cX12_init 431 = .ok (.bipush 64, 2) := by decide +kernel
theorem dX12_init_433 : decode cX12_init 433 = .ok (.newarray .int, 2) := by decide +kernel
theorem dX12_init_435 : decode cX12_init 435 = .ok (.putfield 69, 3) := by decide +kernel
theorem dX12_init_438 : decode cX12_init 438 = .ok (.aload_n 0, 1) := by decide +kernel
theorem dX12_init_439 : decode cX12_init 439 = .ok (.bipush 8, 2) := by decide +kernel
theorem dX12_init_441 : decode cX12_init 441 = .ok (.newarray .int, 2) := by decide +kernel
theorem dX12_init_443 : decode cX12_init 443 = .ok (.putfield 72, 3) := by decide +kernel
theorem dX12_init_446 : decode cX12_init 446 = .ok (.aload_n 0, 1) := by decide +kernel
theorem dX12_init_447 : decode cX12_init 447 = .ok (.invokevirtual 75, 3) := by decide +kernel
theorem dX12_init_450 : decode cX12_init 450 = .ok (.aload_n 0, 1) := by decide +kernel
theorem dX12_init_451 : decode cX12_init 451 = .ok (.invokevirtual 78, 3) := by decide +kernel
theorem dX12_init_454 : decode cX12_init 454 = .ok (.return_, 1) := by decide +kernel
theorem dX12_thrown_0 : decode cX12_thrown 0 = .ok (.aload_n 0, 1) := by decide +kernel
theorem dX12_thrown_1 : decode cX12_thrown 1 = .ok (.getfield 81, 3) := by decide +kernel
theorem dX12_thrown_4 : decode cX12_thrown 4 = .ok (.ireturn, 1) := by decide +kernel
theorem dX12_feed_0 : decode cX12_feed 0 = .ok (.aload_n 0, 1) := by decide +kernel
theorem dX12_feed_1 : decode cX12_feed 1 = .ok (.iconst 0, 1) := by decide +kernel
theorem dX12_feed_2 : decode cX12_feed 2 = .ok (.putfield 81, 3) := by decide +kernel
theorem dX12_feed_5 : decode cX12_feed 5 = .ok (.aload_n 0, 1) := by decide +kernel
theorem dX12_feed_6 : decode cX12_feed 6 = .ok (.getfield 84, 3) := by decide +kernel
theorem dX12_feed_9 : decode cX12_feed 9 = .ok (.bipush 20, 2) := by decide +kernel
theorem dX12_feed_11 : decode cX12_feed 11 = .ok (.iadd, 1) := by decide +kernel
theorem dX12_feed_12 : decode cX12_feed 12 = .ok (.sipush 700, 3) := by decide +kernel
theorem dX12_feed_15 : decode cX12_feed 15 = .ok (.if_icmp .le 5, 3) := by decide +kernel
theorem dX12_feed_18 : decode cX12_feed 18 = .ok (.iconst (-1), 1) := by decide +kernel
theorem dX12_feed_19 : decode cX12_feed 19 = .ok (.ireturn, 1) := by decide +kernel
theorem dX12_feed_20 : decode cX12_feed 20 = .ok (.iconst 0, 1) := by decide +kernel
theorem dX12_feed_21 : decode cX12_feed 21 = .ok (.istore 6, 2) := by decide +kernel
theorem dX12_feed_23 : decode cX12_feed 23 = .ok (.iload 6, 2) := by decide +kernel
theorem dX12_feed_25 : decode cX12_feed 25 = .ok (.bipush 20, 2) := by decide +kernel
theorem dX12_feed_27 : decode cX12_feed 27 = .ok (.if_icmp .ge 86, 3) := by decide +kernel
theorem dX12_feed_30 : decode cX12_feed 30 = .ok (.iload 6, 2) := by decide +kernel
theorem dX12_feed_32 : decode cX12_feed 32 = .ok (.iconst 4, 1) := by decide +kernel
theorem dX12_feed_33 : decode cX12_feed 33 = .ok (.if_icmp .ge 7, 3) := by decide +kernel
theorem dX12_feed_36 : decode cX12_feed 36 = .ok (.iload_n 1, 1) := by decide +kernel
theorem dX12_feed_37 : decode cX12_feed 37 = .ok (.goto 39, 3) := by decide +kernel
theorem dX12_feed_40 : decode cX12_feed 40 = .ok (.iload 6, 2) := by decide +kernel
theorem dX12_feed_42 : decode cX12_feed 42 = .ok (.bipush 8, 2) := by decide +kernel
theorem dX12_feed_44 : decode cX12_feed 44 = .ok (.if_icmp .ge 7, 3) := by decide +kernel
theorem dX12_feed_47 : decode cX12_feed 47 = .ok (.iload_n 2, 1) := by decide +kernel
theorem dX12_feed_48 : decode cX12_feed 48 = .ok (.goto 28, 3) := by decide +kernel
theorem dX12_feed_51 : decode cX12_feed 51 = .ok (.iload 6, 2) := by decide +kernel
theorem dX12_feed_53 : decode cX12_feed 53 = .ok (.bipush 12, 2) := by decide +kernel
theorem dX12_feed_55 : decode cX12_feed 55 = .ok (.if_icmp .ge 7, 3) := by decide +kernel
theorem dX12_feed_58 : decode cX12_feed 58 = .ok (.iload_n 3, 1) := by decide +kernel
theorem dX12_feed_59 : decode cX12_feed 59 = .ok (.goto 17, 3) := by decide +kernel
theorem dX12_feed_62 : decode cX12_feed 62 = .ok (.iload 6, 2) := by decide +kernel
theorem dX12_feed_64 : decode cX12_feed 64 = .ok (.bipush 16, 2) := by decide +kernel
theorem dX12_feed_66 : decode cX12_feed 66 = .ok (.if_icmp .ge 8, 3) := by decide +kernel
theorem dX12_feed_69 : decode cX12_feed 69 = .ok (.iload 4, 2) := by decide +kernel
theorem dX12_feed_71 : decode cX12_feed 71 = .ok (.goto 5, 3) := by decide +kernel
theorem dX12_feed_74 : decode cX12_feed 74 = .ok (.iload 5, 2) := by decide +kernel
theorem dX12_feed_76 : decode cX12_feed 76 = .ok (.istore 7, 2) := by decide +kernel
theorem dX12_feed_78 : decode cX12_feed 78 = .ok (.aload_n 0, 1) := by decide +kernel
theorem dX12_feed_79 : decode cX12_feed 79 = .ok (.getfield 7, 3) := by decide +kernel
theorem dX12_feed_82 : decode cX12_feed 82 = .ok (.aload_n 0, 1) := by decide +kernel
theorem dX12_feed_83 : decode cX12_feed 83 = .ok (.getfield 84, 3) := by decide +kernel
theorem dX12_feed_86 : decode cX12_feed 86 = .ok (.iload 6, 2) := by decide +kernel
theorem dX12_feed_88 : decode cX12_feed 88 = .ok (.iadd, 1) := by decide +kernel
theorem dX12_feed_89 : decode cX12_feed 89 = .ok (.iload 7, 2) := by decide +kernel
theorem dX12_feed_91 : decode cX12_feed 91 = .ok (.bipush 24, 2) := by decide +kernel
theorem dX12_feed_93 : decode cX12_feed 93 = .ok (.bipush 8, 2) := by decide +kernel
theorem dX12_feed_95 : decode cX12_feed 95 = .ok (.iload 6, 2) := by decide +kernel
theorem dX12_feed_97 : decode cX12_feed 97 = .ok (.iconst 4, 1) := by decide +kernel
theorem dX12_feed_98 : decode cX12_feed 98 = .ok (.irem, 1) := by decide +kernel
theorem dX12_feed_99 : decode cX12_feed 99 = .ok (.imul, 1) := by decide +kernel
theorem dX12_feed_100 : decode cX12_feed 100 = .ok (.isub, 1) := by decide +kernel
theorem dX12_feed_101 : decode cX12_feed 101 = .ok (.ishr, 1) := by decide +kernel
theorem dX12_feed_102 : decode cX12_feed 102 = .ok (.sipush 255, 3) := by decide +kernel
theorem dX12_feed_105 : decode cX12_feed 105 = .ok (.iand, 1) := by decide +kernel
theorem dX12_feed_106 : decode cX12_feed 106 = .ok (.iastore, 1) := by decide +kernel
theorem dX12_feed_107 : decode cX12_feed 107 = .ok (.iinc 6 1, 3) := by decide +kernel
theorem dX12_feed_110 : decode cX12_feed 110 = .ok (.goto (-87), 3) := by decide +kernel
theorem dX12_feed_113 : decode cX12_feed 113 = .ok (.aload_n 0, 1) := by decide +kernel
theorem dX12_feed_114 : decode cX12_feed 114 = .ok (.dup, 1) := by decide +kernel
theorem dX12_feed_115 : decode cX12_feed 115 = .ok (.getfield 84, 3) := by decide +kernel
theorem dX12_feed_118 : decode cX12_feed 118 = .ok (.bipush 20, 2) := by decide +kernel
theorem dX12_feed_120 : decode cX12_feed 120 = .ok (.iadd, 1) := by decide +kernel
theorem dX12_feed_121 : decode cX12_feed 121 = .ok (.putfield 84, 3) := by decide +kernel
theorem dX12_feed_124 : decode cX12_feed 124 = .ok (.aload_n 0, 1) := by decide +kernel
theorem dX12_feed_125 : decode cX12_feed 125 = .ok (.getfield 84, 3) := by decide +kernel
theorem dX12_feed_128 : decode cX12_feed 128 = .ok (.ireturn, 1) := by decide +kernel
theorem dX12_isIn_0 : decode cX12_isIn 0 = .ok (.iload_n 0, 1) := by decide +kernel
theorem dX12_isIn_1 : decode cX12_isIn 1 = .ok (.iload_n 1, 1) := by decide +kernel
theorem dX12_isIn_2 : decode cX12_isIn 2 = .ok (.if_icmp .lt 12, 3) := by decide +kernel
theorem dX12_isIn_5 : decode cX12_isIn 5 = .ok (.iload_n 0, 1) := by decide +kernel
theorem dX12_isIn_6 : decode cX12_isIn 6 = .ok (.iload_n 2, 1) := by decide +kernel
theorem dX12_isIn_7 : decode cX12_isIn 7 = .ok (.if_icmp .gt 7, 3) := by decide +kernel
theorem dX12_isIn_10 : decode cX12_isIn 10 = .ok (.iconst 1, 1) := by decide +kernel
theorem dX12_isIn_11 : decode cX12_isIn 11 = .ok (.goto 4, 3) := by decide +kernel
theorem dX12_isIn_14 : decode cX12_isIn 14 = .ok (.iconst 0, 1) := by decide +kernel
theorem dX12_isIn_15 : decode cX12_isIn 15 = .ok (.ireturn, 1) := by decide +kernel
theorem dX12_wrong_0 : decode cX12_wrong 0 = .ok (.aload_n 0, 1) := by decide +kernel
theorem dX12_wrong_1 : decode cX12_wrong 1 = .ok (.iload_n 1, 1) := by decide +kernel
theorem dX12_wrong_2 : decode cX12_wrong 2 = .ok (.putfield 87, 3) := by decide +kernel
theorem dX12_wrong_5 : decode cX12_wrong 5 = .ok (.aload_n 0, 1) := by decide +kernel
theorem dX12_wrong_6 : decode cX12_wrong 6 = .ok (.aload_n 0, 1) := by decide +kernel
theorem dX12_wrong_7 : decode cX12_wrong 7 = .ok (.getfield 90, 3) := by decide +kernel
theorem dX12_wrong_10 : decode cX12_wrong 10 = .ok (.putfield 16, 3) := by decide +kernel
theorem dX12_wrong_13 : decode cX12_wrong 13 = .ok (.iconst 0, 1) := by decide +kernel
theorem dX12_wrong_14 : decode cX12_wrong 14 = .ok (.ireturn, 1) := by decide +kernel
theorem dX12_wordAt_0 : decode cX12_wordAt 0 = .ok (.iconst 0, 1) := by decide +kernel
theorem dX12_wordAt_1 : decode cX12_wordAt 1 = .ok (.istore_n 3, 1) := by decide +kernel
theorem dX12_wordAt_2 : decode cX12_wordAt 2 = .ok (.iconst 0, 1) := by decide +kernel
theorem dX12_wordAt_3 : decode cX12_wordAt 3 = .ok (.istore 4, 2) := by decide +kernel
theorem dX12_wordAt_5 : decode cX12_wordAt 5 = .ok (.iload 4, 2) := by decide +kernel
theorem dX12_wordAt_7 : decode cX12_wordAt 7 = .ok (.aload_n 0, 1) := by decide +kernel
theorem dX12_wordAt_8 : decode cX12_wordAt 8 = .ok (.getfield 13, 3) := by decide +kernel
theorem dX12_wordAt_11 : decode cX12_wordAt 11 = .ok (.arraylength, 1) := by decide +kernel
theorem dX12_wordAt_12 : decode cX12_wordAt 12 = .ok (.if_icmp .ge 114, 3) := by decide +kernel
theorem dX12_wordAt_15 : decode cX12_wordAt 15 = .ok (.iconst 0, 1) := by decide +kernel
theorem dX12_wordAt_16 : decode cX12_wordAt 16 = .ok (.istore 5, 2) := by decide +kernel
theorem dX12_wordAt_18 : decode cX12_wordAt 18 = .ok (.aload_n 0, 1) := by decide +kernel
theorem dX12_wordAt_19 : decode cX12_wordAt 19 = .ok (.getfield 13, 3) := by decide +kernel
theorem dX12_wordAt_22 : decode cX12_wordAt 22 = .ok (.iload 4, 2) := by decide +kernel
theorem dX12_wordAt_24 : decode cX12_wordAt 24 = .ok (.iload 5, 2) := by decide +kernel
theorem dX12_wordAt_26 : decode cX12_wordAt 26 = .ok (.iadd, 1) := by decide +kernel
theorem dX12_wordAt_27 : decode cX12_wordAt 27 = .ok (.iaload, 1) := by decide +kernel
theorem dX12_wordAt_28 : decode cX12_wordAt 28 = .ok (.bipush 32, 2) := by decide +kernel
theorem dX12_wordAt_30 : decode cX12_wordAt 30 = .ok (.if_icmp .eq 9, 3) := by decide +kernel
theorem dX12_wordAt_33 : decode cX12_wordAt 33 = .ok (.iinc 5 1, 3) := by decide +kernel
theorem dX12_wordAt_36 : decode cX12_wordAt 36 = .ok (.goto (-18), 3) := by decide +kernel
theorem dX12_wordAt_39 : decode cX12_wordAt 39 = .ok (.iload 5, 2) := by decide +kernel
theorem dX12_wordAt_41 : decode cX12_wordAt 41 = .ok (.iload_n 2, 1) := by decide +kernel
theorem dX12_wordAt_42 : decode cX12_wordAt 42 = .ok (.iload_n 1, 1) := by decide +kernel
theorem dX12_wordAt_43 : decode cX12_wordAt 43 = .ok (.isub, 1) := by decide +kernel
theorem dX12_wordAt_44 : decode cX12_wordAt 44 = .ok (.if_icmp .ne 7, 3) := by decide +kernel
theorem dX12_wordAt_47 : decode cX12_wordAt 47 = .ok (.iconst 1, 1) := by decide +kernel
theorem dX12_wordAt_48 : decode cX12_wordAt 48 = .ok (.goto 4, 3) := by decide +kernel
theorem dX12_wordAt_51 : decode cX12_wordAt 51 = .ok (.iconst 0, 1) := by decide +kernel
theorem dX12_wordAt_52 : decode cX12_wordAt 52 = .ok (.istore 6, 2) := by decide +kernel
theorem dX12_wordAt_54 : decode cX12_wordAt 54 = .ok (.iconst 0, 1) := by decide +kernel
theorem dX12_wordAt_55 : decode cX12_wordAt 55 = .ok (.istore 7, 2) := by decide +kernel
theorem dX12_wordAt_57 : decode cX12_wordAt 57 = .ok (.iload 7, 2) := by decide +kernel
theorem dX12_wordAt_59 : decode cX12_wordAt 59 = .ok (.iload 5, 2) := by decide +kernel
theorem dX12_wordAt_61 : decode cX12_wordAt 61 = .ok (.if_icmp .ge 43, 3) := by decide +kernel
theorem dX12_wordAt_64 : decode cX12_wordAt 64 = .ok (.iload 6, 2) := by decide +kernel
theorem dX12_wordAt_66 : decode cX12_wordAt 66 = .ok (.ifCond .eq 38, 3) := by decide +kernel
theorem dX12_wordAt_69 : decode cX12_wordAt 69 = .ok (.aload_n 0, 1) := by decide +kernel
theorem dX12_wordAt_70 : decode cX12_wordAt 70 = .ok (.getfield 13, 3) := by decide +kernel
theorem dX12_wordAt_73 : decode cX12_wordAt 73 = .ok (.iload 4, 2) := by decide +kernel
theorem dX12_wordAt_75 : decode cX12_wordAt 75 = .ok (.iload 7, 2) := by decide +kernel
theorem dX12_wordAt_77 : decode cX12_wordAt 77 = .ok (.iadd, 1) := by decide +kernel
theorem dX12_wordAt_78 : decode cX12_wordAt 78 = .ok (.iaload, 1) := by decide +kernel
theorem dX12_wordAt_79 : decode cX12_wordAt 79 = .ok (.aload_n 0, 1) := by decide +kernel
theorem dX12_wordAt_80 : decode cX12_wordAt 80 = .ok (.getfield 7, 3) := by decide +kernel
theorem dX12_wordAt_83 : decode cX12_wordAt 83 = .ok (.iload_n 1, 1) := by decide +kernel
theorem dX12_wordAt_84 : decode cX12_wordAt 84 = .ok (.iload 7, 2) := by decide +kernel
theorem dX12_wordAt_86 : decode cX12_wordAt 86 = .ok (.iadd, 1) := by decide +kernel
theorem dX12_wordAt_87 : decode cX12_wordAt 87 = .ok (.iaload, 1) := by decide +kernel
theorem dX12_wordAt_88 : decode cX12_wordAt 88 = .ok (.if_icmp .ne 7, 3) := by decide +kernel
theorem dX12_wordAt_91 : decode cX12_wordAt 91 = .ok (.iconst 1, 1) := by decide +kernel
theorem dX12_wordAt_92 : decode cX12_wordAt 92 = .ok (.goto 4, 3) := by decide +kernel
theorem dX12_wordAt_95 : decode cX12_wordAt 95 = .ok (.iconst 0, 1) := by decide +kernel
theorem dX12_wordAt_96 : decode cX12_wordAt 96 = .ok (.istore 6, 2) := by decide +kernel
theorem dX12_wordAt_98 : decode cX12_wordAt 98 = .ok (.iinc 7 1, 3) := by decide +kernel
theorem dX12_wordAt_101 : decode cX12_wordAt 101 = .ok (.goto (-44), 3) := by decide +kernel
theorem dX12_wordAt_104 : decode cX12_wordAt 104 = .ok (.iload 6, 2) := by decide +kernel
theorem dX12_wordAt_106 : decode cX12_wordAt 106 = .ok (.ifCond .eq 5, 3) := by decide +kernel
theorem dX12_wordAt_109 : decode cX12_wordAt 109 = .ok (.iload_n 3, 1) := by decide +kernel
theorem dX12_wordAt_110 : decode cX12_wordAt 110 = .ok (.ireturn, 1) := by decide +kernel
theorem dX12_wordAt_111 : decode cX12_wordAt 111 = .ok (.iload 4, 2) := by decide +kernel
theorem dX12_wordAt_113 : decode cX12_wordAt 113 = .ok (.iload 5, 2) := by decide +kernel
theorem dX12_wordAt_115 : decode cX12_wordAt 115 = .ok (.iconst 1, 1) := by decide +kernel
theorem dX12_wordAt_116 : decode cX12_wordAt 116 = .ok (.iadd, 1) := by decide +kernel
theorem dX12_wordAt_117 : decode cX12_wordAt 117 = .ok (.iadd, 1) := by decide +kernel
theorem dX12_wordAt_118 : decode cX12_wordAt 118 = .ok (.istore 4, 2) := by decide +kernel
theorem dX12_wordAt_120 : decode cX12_wordAt 120 = .ok (.iinc 3 1, 3) := by decide +kernel
theorem dX12_wordAt_123 : decode cX12_wordAt 123 = .ok (.goto (-118), 3) := by decide +kernel
theorem dX12_wordAt_126 : decode cX12_wordAt 126 = .ok (.iconst (-1), 1) := by decide +kernel
theorem dX12_wordAt_127 : decode cX12_wordAt 127 = .ok (.ireturn, 1) := by decide +kernel
theorem dX12_isSmall_0 : decode cX12_isSmall 0 = .ok (.iload_n 1, 1) := by decide +kernel
theorem dX12_isSmall_1 : decode cX12_isSmall 1 = .ok (.aload_n 0, 1) := by decide +kernel
theorem dX12_isSmall_2 : decode cX12_isSmall 2 = .ok (.getfield 93, 3) := by decide +kernel
theorem dX12_isSmall_5 : decode cX12_isSmall 5 = .ok (.if_icmp .ge 29, 3) := by decide +kernel
theorem dX12_isSmall_8 : decode cX12_isSmall 8 = .ok (.aload_n 0, 1) := by decide +kernel
theorem dX12_isSmall_9 : decode cX12_isSmall 9 = .ok (.getfield 7, 3) := by decide +kernel
theorem dX12_isSmall_12 : decode cX12_isSmall 12 = .ok (.iload_n 1, 1) := by decide +kernel
theorem dX12_isSmall_13 : decode cX12_isSmall 13 = .ok (.iaload, 1) := by decide +kernel
theorem dX12_isSmall_14 : decode cX12_isSmall 14 = .ok (.bipush 97, 2) := by decide +kernel
theorem dX12_isSmall_16 : decode cX12_isSmall 16 = .ok (.if_icmp .lt 18, 3) := by decide +kernel
theorem dX12_isSmall_19 : decode cX12_isSmall 19 = .ok (.aload_n 0, 1) := by decide +kernel
theorem dX12_isSmall_20 : decode cX12_isSmall 20 = .ok (.getfield 7, 3) := by decide +kernel
theorem dX12_isSmall_23 : decode cX12_isSmall 23 = .ok (.iload_n 1, 1) := by decide +kernel
theorem dX12_isSmall_24 : decode cX12_isSmall 24 = .ok (.iaload, 1) := by decide +kernel
theorem dX12_isSmall_25 : decode cX12_isSmall 25 = .ok (.bipush 122, 2) := by decide +kernel
theorem dX12_isSmall_27 : decode cX12_isSmall 27 = .ok (.if_icmp .gt 7, 3) := by decide +kernel
theorem dX12_isSmall_30 : decode cX12_isSmall 30 = .ok (.iconst 1, 1) := by decide +kernel
theorem dX12_isSmall_31 : decode cX12_isSmall 31 = .ok (.goto 4, 3) := by decide +kernel
theorem dX12_isSmall_34 : decode cX12_isSmall 34 = .ok (.iconst 0, 1) := by decide +kernel
theorem dX12_isSmall_35 : decode cX12_isSmall 35 = .ok (.ireturn, 1) := by decide +kernel
theorem dX12_isDigit_0 : decode cX12_isDigit 0 = .ok (.iload_n 1, 1) := by decide +kernel
theorem dX12_isDigit_1 : decode cX12_isDigit 1 = .ok (.aload_n 0, 1) := by decide +kernel
theorem dX12_isDigit_2 : decode cX12_isDigit 2 = .ok (.getfield 93, 3) := by decide +kernel
theorem dX12_isDigit_5 : decode cX12_isDigit 5 = .ok (.if_icmp .ge 29, 3) := by decide +kernel
theorem dX12_isDigit_8 : decode cX12_isDigit 8 = .ok (.aload_n 0, 1) := by decide +kernel
theorem dX12_isDigit_9 : decode cX12_isDigit 9 = .ok (.getfield 7, 3) := by decide +kernel
theorem dX12_isDigit_12 : decode cX12_isDigit 12 = .ok (.iload_n 1, 1) := by decide +kernel
theorem dX12_isDigit_13 : decode cX12_isDigit 13 = .ok (.iaload, 1) := by decide +kernel
theorem dX12_isDigit_14 : decode cX12_isDigit 14 = .ok (.bipush 48, 2) := by decide +kernel
theorem dX12_isDigit_16 : decode cX12_isDigit 16 = .ok (.if_icmp .lt 18, 3) := by decide +kernel
theorem dX12_isDigit_19 : decode cX12_isDigit 19 = .ok (.aload_n 0, 1) := by decide +kernel
theorem dX12_isDigit_20 : decode cX12_isDigit 20 = .ok (.getfield 7, 3) := by decide +kernel
theorem dX12_isDigit_23 : decode cX12_isDigit 23 = .ok (.iload_n 1, 1) := by decide +kernel
theorem dX12_isDigit_24 : decode cX12_isDigit 24 = .ok (.iaload, 1) := by decide +kernel
theorem dX12_isDigit_25 : decode cX12_isDigit 25 = .ok (.bipush 57, 2) := by decide +kernel
theorem dX12_isDigit_27 : decode cX12_isDigit 27 = .ok (.if_icmp .gt 7, 3) := by decide +kernel
theorem dX12_isDigit_30 : decode cX12_isDigit 30 = .ok (.iconst 1, 1) := by decide +kernel
theorem dX12_isDigit_31 : decode cX12_isDigit 31 = .ok (.goto 4, 3) := by decide +kernel
theorem dX12_isDigit_34 : decode cX12_isDigit 34 = .ok (.iconst 0, 1) := by decide +kernel
theorem dX12_isDigit_35 : decode cX12_isDigit 35 = .ok (.ireturn, 1) := by decide +kernel
theorem dX12_token_0 : decode cX12_token 0 = .ok (.aload_n 0, 1) := by decide +kernel
theorem dX12_token_1 : decode cX12_token 1 = .ok (.getfield 96, 3) := by decide +kernel
theorem dX12_token_4 : decode cX12_token 4 = .ok (.aload_n 0, 1) := by decide +kernel
theorem dX12_token_5 : decode cX12_token 5 = .ok (.getfield 93, 3) := by decide +kernel
theorem dX12_token_8 : decode cX12_token 8 = .ok (.if_icmp .ge 44, 3) := by decide +kernel
theorem dX12_token_11 : decode cX12_token 11 = .ok (.aload_n 0, 1) := by decide +kernel
theorem dX12_token_12 : decode cX12_token 12 = .ok (.getfield 7, 3) := by decide +kernel
theorem dX12_token_15 : decode cX12_token 15 = .ok (.aload_n 0, 1) := by decide +kernel
theorem dX12_token_16 : decode cX12_token 16 = .ok (.getfield 96, 3) := by decide +kernel
theorem dX12_token_19 : decode cX12_token 19 = .ok (.iaload, 1) := by decide +kernel
theorem dX12_token_20 : decode cX12_token 20 = .ok (.bipush 10, 2) := by decide +kernel
theorem dX12_token_22 : decode cX12_token 22 = .ok (.if_icmp .eq 17, 3) := by decide +kernel
theorem dX12_token_25 : decode cX12_token 25 = .ok (.aload_n 0, 1) := by decide +kernel
theorem dX12_token_26 : decode cX12_token 26 = .ok (.getfield 7, 3) := by decide +kernel
theorem dX12_token_29 : decode cX12_token 29 = .ok (.aload_n 0, 1) := by decide +kernel
theorem dX12_token_30 : decode cX12_token 30 = .ok (.getfield 96, 3) := by decide +kernel
theorem dX12_token_33 : decode cX12_token 33 = .ok (.iaload, 1) := by decide +kernel
theorem dX12_token_34 : decode cX12_token 34 = .ok (.bipush 32, 2) := by decide +kernel
theorem dX12_token_36 : decode cX12_token 36 = .ok (.if_icmp .ne 16, 3) := by decide +kernel
theorem dX12_token_39 : decode cX12_token 39 = .ok (.aload_n 0, 1) := by decide +kernel
theorem dX12_token_40 : decode cX12_token 40 = .ok (.dup, 1) := by decide +kernel
theorem dX12_token_41 : decode cX12_token 41 = .ok (.getfield 96, 3) := by decide +kernel
theorem dX12_token_44 : decode cX12_token 44 = .ok (.iconst 1, 1) := by decide +kernel
theorem dX12_token_45 : decode cX12_token 45 = .ok (.iadd, 1) := by decide +kernel
theorem dX12_token_46 : decode cX12_token 46 = .ok (.putfield 96, 3) := by decide +kernel
theorem dX12_token_49 : decode cX12_token 49 = .ok (.goto (-49), 3) := by decide +kernel
theorem dX12_token_52 : decode cX12_token 52 = .ok (.aload_n 0, 1) := by decide +kernel
theorem dX12_token_53 : decode cX12_token 53 = .ok (.aload_n 0, 1) := by decide +kernel
theorem dX12_token_54 : decode cX12_token 54 = .ok (.getfield 96, 3) := by decide +kernel
theorem dX12_token_57 : decode cX12_token 57 = .ok (.putfield 90, 3) := by decide +kernel
theorem dX12_token_60 : decode cX12_token 60 = .ok (.aload_n 0, 1) := by decide +kernel
theorem dX12_token_61 : decode cX12_token 61 = .ok (.getfield 96, 3) := by decide +kernel
theorem dX12_token_64 : decode cX12_token 64 = .ok (.aload_n 0, 1) := by decide +kernel
theorem dX12_token_65 : decode cX12_token 65 = .ok (.getfield 93, 3) := by decide +kernel
theorem dX12_token_68 : decode cX12_token 68 = .ok (.if_icmp .ne 11, 3) := by decide +kernel
theorem dX12_token_71 : decode cX12_token 71 = .ok (.aload_n 0, 1) := by decide +kernel
theorem dX12_token_72 : decode cX12_token 72 = .ok (.iconst 0, 1) := by decide +kernel
theorem dX12_token_73 : decode cX12_token 73 = .ok (.putfield 99, 3) := by decide +kernel
theorem dX12_token_76 : decode cX12_token 76 = .ok (.goto 330, 3) := by decide +kernel
theorem dX12_token_79 : decode cX12_token 79 = .ok (.aload_n 0, 1) := by decide +kernel
theorem dX12_token_80 : decode cX12_token 80 = .ok (.aload_n 0, 1) := by decide +kernel
theorem dX12_token_81 : decode cX12_token 81 = .ok (.getfield 96, 3) := by decide +kernel
theorem dX12_token_84 : decode cX12_token 84 = .ok (.invokevirtual 102, 3) := by decide +kernel
theorem dX12_token_87 : decode cX12_token 87 = .ok (.ifCond .eq 104, 3) := by decide +kernel
theorem dX12_token_90 : decode cX12_token 90 = .ok (.aload_n 0, 1) := by decide +kernel
theorem dX12_token_91 : decode cX12_token 91 = .ok (.aload_n 0, 1) := by decide +kernel
theorem dX12_token_92 : decode cX12_token 92 = .ok (.getfield 96, 3) := by decide +kernel
theorem dX12_token_95 : decode cX12_token 95 = .ok (.invokevirtual 102, 3) := by decide +kernel
theorem dX12_token_98 : decode cX12_token 98 = .ok (.ifCond .eq 16, 3) := by decide +kernel
theorem dX12_token_101 : decode cX12_token 101 = .ok (.aload_n 0, 1) := by decide +kernel
theorem dX12_token_102 : decode cX12_token 102 = .ok (.dup, 1) := by decide +kernel
theorem dX12_token_103 : decode cX12_token 103 = .ok (.getfield 96, 3) := by decide +kernel
theorem dX12_token_106 : decode cX12_token 106 = .ok (.iconst 1, 1) := by decide +kernel
theorem dX12_token_107 : decode cX12_token 107 = .ok (.iadd, 1) := by decide +kernel
theorem dX12_token_108 : decode cX12_token 108 = .ok (.putfield 96, 3) := by decide +kernel
theorem dX12_token_111 : decode cX12_token 111 = .ok (.goto (-21), 3) := by decide +kernel
theorem dX12_token_114 : decode cX12_token 114 = .ok (.aload_n 0, 1) := by decide +kernel
theorem dX12_token_115 : decode cX12_token 115 = .ok (.aload_n 0, 1) := by decide +kernel
theorem dX12_token_116 : decode cX12_token 116 = .ok (.aload_n 0, 1) := by decide +kernel
theorem dX12_token_117 : decode cX12_token 117 = .ok (.getfield 90, 3) := by decide +kernel
theorem dX12_token_120 : decode cX12_token 120 = .ok (.aload_n 0, 1) := by decide +kernel
theorem dX12_token_121 : decode cX12_token 121 = .ok (.getfield 96, 3) := by decide +kernel
theorem dX12_token_124 : decode cX12_token 124 = .ok (.invokevirtual 106, 3) := by decide +kernel
theorem dX12_token_127 : decode cX12_token 127 = .ok (.putfield 110, 3) := by decide +kernel
theorem dX12_token_130 : decode cX12_token 130 = .ok (.aload_n 0, 1) := by decide +kernel
theorem dX12_token_131 : decode cX12_token 131 = .ok (.aload_n 0, 1) := by decide +kernel
theorem dX12_token_132 : decode cX12_token 132 = .ok (.getfield 110, 3) := by decide +kernel
theorem dX12_token_135 : decode cX12_token 135 = .ok (.ifCond .lt 7, 3) := by decide +kernel
theorem dX12_token_138 : decode cX12_token 138 = .ok (.iconst 1, 1) := by decide +kernel
theorem dX12_token_139 : decode cX12_token 139 = .ok (.goto 22, 3) := by decide +kernel
theorem dX12_token_142 : decode cX12_token 142 = .ok (.aload_n 0, 1) := by decide +kernel
theorem dX12_token_143 : decode cX12_token 143 = .ok (.getfield 96, 3) := by decide +kernel
theorem dX12_token_146 : decode cX12_token 146 = .ok (.aload_n 0, 1) := by decide +kernel
theorem dX12_token_147 : decode cX12_token 147 = .ok (.getfield 90, 3) := by decide +kernel
theorem dX12_token_150 : decode cX12_token 150 = .ok (.isub, 1) := by decide +kernel
theorem dX12_token_151 : decode cX12_token 151 = .ok (.bipush 6, 2) := by decide +kernel
theorem dX12_token_153 : decode cX12_token 153 = .ok (.if_icmp .le 7, 3) := by decide +kernel
theorem dX12_token_156 : decode cX12_token 156 = .ok (.iconst 5, 1) := by decide +kernel
theorem dX12_token_157 : decode cX12_token 157 = .ok (.goto 4, 3) := by decide +kernel
theorem dX12_token_160 : decode cX12_token 160 = .ok (.iconst 2, 1) := by decide +kernel
theorem dX12_token_161 : decode cX12_token 161 = .ok (.putfield 99, 3) := by decide +kernel
theorem dX12_token_164 : decode cX12_token 164 = .ok (.aload_n 0, 1) := by decide +kernel
theorem dX12_token_165 : decode cX12_token 165 = .ok (.getfield 99, 3) := by decide +kernel
theorem dX12_token_168 : decode cX12_token 168 = .ok (.iconst 2, 1) := by decide +kernel
theorem dX12_token_169 : decode cX12_token 169 = .ok (.if_icmp .ne 237, 3) := by decide +kernel
theorem dX12_token_172 : decode cX12_token 172 = .ok (.aload_n 0, 1) := by decide +kernel
theorem dX12_token_173 : decode cX12_token 173 = .ok (.aload_n 0, 1) := by decide +kernel
theorem dX12_token_174 : decode cX12_token 174 = .ok (.aload_n 0, 1) := by decide +kernel
theorem dX12_token_175 : decode cX12_token 175 = .ok (.getfield 90, 3) := by decide +kernel
theorem dX12_token_178 : decode cX12_token 178 = .ok (.aload_n 0, 1) := by decide +kernel
theorem dX12_token_179 : decode cX12_token 179 = .ok (.getfield 96, 3) := by decide +kernel
theorem dX12_token_182 : decode cX12_token 182 = .ok (.invokevirtual 113, 3) := by decide +kernel
theorem dX12_token_185 : decode cX12_token 185 = .ok (.putfield 110, 3) := by decide +kernel
theorem dX12_token_188 : decode cX12_token 188 = .ok (.goto 218, 3) := by decide +kernel
theorem dX12_token_191 : decode cX12_token 191 = .ok (.aload_n 0, 1) := by decide +kernel
theorem dX12_token_192 : decode cX12_token 192 = .ok (.aload_n 0, 1) := by decide +kernel
theorem dX12_token_193 : decode cX12_token 193 = .ok (.getfield 96, 3) := by decide +kernel
theorem dX12_token_196 : decode cX12_token 196 = .ok (.invokevirtual 116, 3) := by decide +kernel
theorem dX12_token_199 : decode cX12_token 199 = .ok (.ifCond .ne 41, 3) := by decide +kernel
theorem dX12_token_202 : decode cX12_token 202 = .ok (.aload_n 0, 1) := by decide +kernel
theorem dX12_token_203 : decode cX12_token 203 = .ok (.getfield 96, 3) := by decide +kernel
theorem dX12_token_206 : decode cX12_token 206 = .ok (.aload_n 0, 1) := by decide +kernel
theorem dX12_token_207 : decode cX12_token 207 = .ok (.getfield 93, 3) := by decide +kernel
theorem dX12_token_210 : decode cX12_token 210 = .ok (.if_icmp .ge 163, 3) := by decide +kernel
theorem dX12_token_213 : decode cX12_token 213 = .ok (.aload_n 0, 1) := by decide +kernel
theorem dX12_token_214 : decode cX12_token 214 = .ok (.getfield 7, 3) := by decide +kernel
theorem dX12_token_217 : decode cX12_token 217 = .ok (.aload_n 0, 1) := by decide +kernel
theorem dX12_token_218 : decode cX12_token 218 = .ok (.getfield 96, 3) := by decide +kernel
theorem dX12_token_221 : decode cX12_token 221 = .ok (.iaload, 1) := by decide +kernel
theorem dX12_token_222 : decode cX12_token 222 = .ok (.bipush 45, 2) := by decide +kernel
theorem dX12_token_224 : decode cX12_token 224 = .ok (.if_icmp .ne 149, 3) := by decide +kernel
theorem dX12_token_227 : decode cX12_token 227 = .ok (.aload_n 0, 1) := by decide +kernel
theorem dX12_token_228 : decode cX12_token 228 = .ok (.aload_n 0, 1) := by decide +kernel
theorem dX12_token_229 : decode cX12_token 229 = .ok (.getfield 96, 3) := by decide +kernel
theorem dX12_token_232 : decode cX12_token 232 = .ok (.iconst 1, 1) := by decide +kernel
theorem dX12_token_233 : decode cX12_token 233 = .ok (.iadd, 1) := by decide +kernel
theorem dX12_token_234 : decode cX12_token 234 = .ok (.invokevirtual 116, 3) := by decide +kernel
theorem dX12_token_237 : decode cX12_token 237 = .ok (.ifCond .eq 136, 3) := by decide +kernel
theorem dX12_token_240 : decode cX12_token 240 = .ok (.aload_n 0, 1) := by decide +kernel
theorem dX12_token_241 : decode cX12_token 241 = .ok (.aload_n 0, 1) := by decide +kernel
theorem dX12_token_242 : decode cX12_token 242 = .ok (.getfield 7, 3) := by decide +kernel
theorem dX12_token_245 : decode cX12_token 245 = .ok (.aload_n 0, 1) := by decide +kernel
theorem dX12_token_246 : decode cX12_token 246 = .ok (.getfield 96, 3) := by decide +kernel
theorem dX12_token_249 : decode cX12_token 249 = .ok (.iaload, 1) := by decide +kernel
theorem dX12_token_250 : decode cX12_token 250 = .ok (.bipush 45, 2) := by decide +kernel
theorem dX12_token_252 : decode cX12_token 252 = .ok (.if_icmp .ne 8, 3) := by decide +kernel
theorem dX12_token_255 : decode cX12_token 255 = .ok (.bipush 6, 2) := by decide +kernel
theorem dX12_token_257 : decode cX12_token 257 = .ok (.goto 4, 3) := by decide +kernel
theorem dX12_token_260 : decode cX12_token 260 = .ok (.iconst 3, 1) := by decide +kernel
theorem dX12_token_261 : decode cX12_token 261 = .ok (.putfield 99, 3) := by decide +kernel
theorem dX12_token_264 : decode cX12_token 264 = .ok (.aload_n 0, 1) := by decide +kernel
theorem dX12_token_265 : decode cX12_token 265 = .ok (.getfield 99, 3) := by decide +kernel
theorem dX12_token_268 : decode cX12_token 268 = .ok (.bipush 6, 2) := by decide +kernel
theorem dX12_token_270 : decode cX12_token 270 = .ok (.if_icmp .ne 13, 3) := by decide +kernel
theorem dX12_token_273 : decode cX12_token 273 = .ok (.aload_n 0, 1) := by decide +kernel
theorem dX12_token_274 : decode cX12_token 274 = .ok (.dup, 1) := by decide +kernel
theorem dX12_token_275 : decode cX12_token 275 = .ok (.getfield 96, 3) := by decide +kernel
theorem dX12_token_278 : decode cX12_token 278 = .ok (.iconst 1, 1) := by decide +kernel
theorem dX12_token_279 : decode cX12_token 279 = .ok (.iadd, 1) := by decide +kernel
theorem dX12_token_280 : decode cX12_token 280 = .ok (.putfield 96, 3) := by decide +kernel
theorem dX12_token_283 : decode cX12_token 283 = .ok (.aload_n 0, 1) := by decide +kernel
theorem dX12_token_284 : decode cX12_token 284 = .ok (.iconst 0, 1) := by decide +kernel
theorem dX12_token_285 : decode cX12_token 285 = .ok (.putfield 110, 3) := by decide +kernel
theorem dX12_token_288 : decode cX12_token 288 = .ok (.aload_n 0, 1) := by decide +kernel
theorem dX12_token_289 : decode cX12_token 289 = .ok (.aload_n 0, 1) := by decide +kernel
theorem dX12_token_290 : decode cX12_token 290 = .ok (.getfield 96, 3) := by decide +kernel
theorem dX12_token_293 : decode cX12_token 293 = .ok (.invokevirtual 116, 3) := by decide +kernel
theorem dX12_token_296 : decode cX12_token 296 = .ok (.ifCond .eq 56, 3) := by decide +kernel
theorem dX12_token_299 : decode cX12_token 299 = .ok (.aload_n 0, 1) := by decide +kernel
theorem dX12_token_300 : decode cX12_token 300 = .ok (.aload_n 0, 1) := by decide +kernel
theorem dX12_token_301 : decode cX12_token 301 = .ok (.getfield 110, 3) := by decide +kernel
theorem dX12_token_304 : decode cX12_token 304 = .ok (.ldc 119, 2) := by decide +kernel
theorem dX12_token_306 : decode cX12_token 306 = .ok (.if_icmp .le 10, 3) := by decide +kernel
theorem dX12_token_309 : decode cX12_token 309 = .ok (.aload_n 0, 1) := by decide +kernel
theorem dX12_token_310 : decode cX12_token 310 = .ok (.getfield 110, 3) := by decide +kernel
theorem dX12_token_313 : decode cX12_token 313 = .ok (.goto 23, 3) := by decide +kernel
theorem dX12_token_316 : decode cX12_token 316 = .ok (.bipush 10, 2) := by decide +kernel
theorem dX12_token_318 : decode cX12_token 318 = .ok (.aload_n 0, 1) := by decide +kernel
theorem dX12_token_319 : decode cX12_token 319 = .ok (.getfield 110, 3) := by decide +kernel
theorem dX12_token_322 : decode cX12_token 322 = .ok (.imul, 1) := by decide +kernel
theorem dX12_token_323 : decode cX12_token 323 = .ok (.aload_n 0, 1) := by decide +kernel
theorem dX12_token_324 : decode cX12_token 324 = .ok (.getfield 7, 3) := by decide +kernel
theorem dX12_token_327 : decode cX12_token 327 = .ok (.aload_n 0, 1) := by decide +kernel
theorem dX12_token_328 : decode cX12_token 328 = .ok (.getfield 96, 3) := by decide +kernel
theorem dX12_token_331 : decode cX12_token 331 = .ok (.iaload, 1) := by decide +kernel
theorem dX12_token_332 : decode cX12_token 332 = .ok (.iadd, 1) := by decide +kernel
theorem dX12_token_333 : decode cX12_token 333 = .ok (.bipush 48, 2) := by decide +kernel
theorem dX12_token_335 : decode cX12_token 335 = .ok (.isub, 1) := by decide +kernel
theorem dX12_token_336 : decode cX12_token 336 = .ok (.putfield 110, 3) := by decide +kernel
theorem dX12_token_339 : decode cX12_token 339 = .ok (.aload_n 0, 1) := by decide +kernel
theorem dX12_token_340 : decode cX12_token 340 = .ok (.dup, 1) := by decide +kernel
theorem dX12_token_341 : decode cX12_token 341 = .ok (.getfield 96, 3) := by decide +kernel
theorem dX12_token_344 : decode cX12_token 344 = .ok (.iconst 1, 1) := by decide +kernel
theorem dX12_token_345 : decode cX12_token 345 = .ok (.iadd, 1) := by decide +kernel
theorem dX12_token_346 : decode cX12_token 346 = .ok (.putfield 96, 3) := by decide +kernel
theorem dX12_token_349 : decode cX12_token 349 = .ok (.goto (-61), 3) := by decide +kernel
theorem dX12_token_352 : decode cX12_token 352 = .ok (.aload_n 0, 1) := by decide +kernel
theorem dX12_token_353 : decode cX12_token 353 = .ok (.getfield 99, 3) := by decide +kernel
theorem dX12_token_356 : decode cX12_token 356 = .ok (.bipush 6, 2) := by decide +kernel
theorem dX12_token_358 : decode cX12_token 358 = .ok (.if_icmp .ne 48, 3) := by decide +kernel
theorem dX12_token_361 : decode cX12_token 361 = .ok (.aload_n 0, 1) := by decide +kernel
theorem dX12_token_362 : decode cX12_token 362 = .ok (.aload_n 0, 1) := by decide +kernel
theorem dX12_token_363 : decode cX12_token 363 = .ok (.getfield 110, 3) := by decide +kernel
theorem dX12_token_366 : decode cX12_token 366 = .ok (.ineg, 1) := by decide +kernel
theorem dX12_token_367 : decode cX12_token 367 = .ok (.putfield 110, 3) := by decide +kernel
theorem dX12_token_370 : decode cX12_token 370 = .ok (.goto 36, 3) := by decide +kernel
theorem dX12_token_373 : decode cX12_token 373 = .ok (.aload_n 0, 1) := by decide +kernel
theorem dX12_token_374 : decode cX12_token 374 = .ok (.aload_n 0, 1) := by decide +kernel
theorem dX12_token_375 : decode cX12_token 375 = .ok (.getfield 7, 3) := by decide +kernel
theorem dX12_token_378 : decode cX12_token 378 = .ok (.aload_n 0, 1) := by decide +kernel
theorem dX12_token_379 : decode cX12_token 379 = .ok (.getfield 96, 3) := by decide +kernel
theorem dX12_token_382 : decode cX12_token 382 = .ok (.iaload, 1) := by decide +kernel
theorem dX12_token_383 : decode cX12_token 383 = .ok (.bipush 59, 2) := by decide +kernel
theorem dX12_token_385 : decode cX12_token 385 = .ok (.if_icmp .ne 7, 3) := by decide +kernel
theorem dX12_token_388 : decode cX12_token 388 = .ok (.iconst 4, 1) := by decide +kernel
theorem dX12_token_389 : decode cX12_token 389 = .ok (.goto 4, 3) := by decide +kernel
theorem dX12_token_392 : decode cX12_token 392 = .ok (.iconst 5, 1) := by decide +kernel
theorem dX12_token_393 : decode cX12_token 393 = .ok (.putfield 99, 3) := by decide +kernel
theorem dX12_token_396 : decode cX12_token 396 = .ok (.aload_n 0, 1) := by decide +kernel
theorem dX12_token_397 : decode cX12_token 397 = .ok (.dup, 1) := by decide +kernel
theorem dX12_token_398 : decode cX12_token 398 = .ok (.getfield 96, 3) := by decide +kernel
theorem dX12_token_401 : decode cX12_token 401 = .ok (.iconst 1, 1) := by decide +kernel
theorem dX12_token_402 : decode cX12_token 402 = .ok (.iadd, 1) := by decide +kernel
theorem dX12_token_403 : decode cX12_token 403 = .ok (.putfield 96, 3) := by decide +kernel
theorem dX12_token_406 : decode cX12_token 406 = .ok (.return_, 1) := by decide +kernel
theorem dX12_packed_0 : decode cX12_packed 0 = .ok (.iconst 0, 1) := by decide +kernel
theorem dX12_packed_1 : decode cX12_packed 1 = .ok (.istore_n 3, 1) := by decide +kernel
theorem dX12_packed_2 : decode cX12_packed 2 = .ok (.iload_n 1, 1) := by decide +kernel
theorem dX12_packed_3 : decode cX12_packed 3 = .ok (.istore 4, 2) := by decide +kernel
theorem dX12_packed_5 : decode cX12_packed 5 = .ok (.iload 4, 2) := by decide +kernel
theorem dX12_packed_7 : decode cX12_packed 7 = .ok (.iload_n 1, 1) := by decide +kernel
theorem dX12_packed_8 : decode cX12_packed 8 = .ok (.bipush 6, 2) := by decide +kernel
theorem dX12_packed_10 : decode cX12_packed 10 = .ok (.iadd, 1) := by decide +kernel
theorem dX12_packed_11 : decode cX12_packed 11 = .ok (.if_icmp .ge 34, 3) := by decide +kernel
theorem dX12_packed_14 : decode cX12_packed 14 = .ok (.iload_n 3, 1) := by decide +kernel
theorem dX12_packed_15 : decode cX12_packed 15 = .ok (.iconst 5, 1) := by decide +kernel
theorem dX12_packed_16 : decode cX12_packed 16 = .ok (.ishl, 1) := by decide +kernel
theorem dX12_packed_17 : decode cX12_packed 17 = .ok (.iload 4, 2) := by decide +kernel
theorem dX12_packed_19 : decode cX12_packed 19 = .ok (.iload_n 2, 1) := by decide +kernel
theorem dX12_packed_20 : decode cX12_packed 20 = .ok (.if_icmp .ge 16, 3) := by decide +kernel
theorem dX12_packed_23 : decode cX12_packed 23 = .ok (.aload_n 0, 1) := by decide +kernel
theorem dX12_packed_24 : decode cX12_packed 24 = .ok (.getfield 7, 3) := by decide +kernel
theorem dX12_packed_27 : decode cX12_packed 27 = .ok (.iload 4, 2) := by decide +kernel
theorem dX12_packed_29 : decode cX12_packed 29 = .ok (.iaload, 1) := by decide +kernel
theorem dX12_packed_30 : decode cX12_packed 30 = .ok (.bipush 96, 2) := by decide +kernel
theorem dX12_packed_32 : decode cX12_packed 32 = .ok (.isub, 1) := by decide +kernel
theorem dX12_packed_33 : decode cX12_packed 33 = .ok (.goto 4, 3) := by decide +kernel
theorem dX12_packed_36 : decode cX12_packed 36 = .ok (.iconst 0, 1) := by decide +kernel
theorem dX12_packed_37 : decode cX12_packed 37 = .ok (.ior, 1) := by decide +kernel
theorem dX12_packed_38 : decode cX12_packed 38 = .ok (.istore_n 3, 1) := by decide +kernel
theorem dX12_packed_39 : decode cX12_packed 39 = .ok (.iinc 4 1, 3) := by decide +kernel
theorem dX12_packed_42 : decode cX12_packed 42 = .ok (.goto (-37), 3) := by decide +kernel
theorem dX12_packed_45 : decode cX12_packed 45 = .ok (.iload_n 3, 1) := by decide +kernel
theorem dX12_packed_46 : decode cX12_packed 46 = .ok (.ireturn, 1) := by decide +kernel
theorem dX12_plain_0 : decode cX12_plain 0 = .ok (.aload_n 0, 1) := by decide +kernel
theorem dX12_plain_1 : decode cX12_plain 1 = .ok (.iconst 0, 1) := by decide +kernel
theorem dX12_plain_2 : decode cX12_plain 2 = .ok (.putfield 120, 3) := by decide +kernel
theorem dX12_plain_5 : decode cX12_plain 5 = .ok (.aload_n 0, 1) := by decide +kernel
theorem dX12_plain_6 : decode cX12_plain 6 = .ok (.iconst 0, 1) := by decide +kernel
theorem dX12_plain_7 : decode cX12_plain 7 = .ok (.putfield 123, 3) := by decide +kernel
theorem dX12_plain_10 : decode cX12_plain 10 = .ok (.aload_n 0, 1) := by decide +kernel
theorem dX12_plain_11 : decode cX12_plain 11 = .ok (.iconst 0, 1) := by decide +kernel
theorem dX12_plain_12 : decode cX12_plain 12 = .ok (.putfield 126, 3) := by decide +kernel
theorem dX12_plain_15 : decode cX12_plain 15 = .ok (.aload_n 0, 1) := by decide +kernel
theorem dX12_plain_16 : decode cX12_plain 16 = .ok (.getfield 29, 3) := by decide +kernel
theorem dX12_plain_19 : decode cX12_plain 19 = .ok (.iconst 4, 1) := by decide +kernel
theorem dX12_plain_20 : decode cX12_plain 20 = .ok (.bipush 75, 2) := by decide +kernel
theorem dX12_plain_22 : decode cX12_plain 22 = .ok (.iastore, 1) := by decide +kernel
theorem dX12_plain_23 : decode cX12_plain 23 = .ok (.aload_n 0, 1) := by decide +kernel
theorem dX12_plain_24 : decode cX12_plain 24 = .ok (.getfield 29, 3) := by decide +kernel
theorem dX12_plain_27 : decode cX12_plain 27 = .ok (.iconst 5, 1) := by decide +kernel
theorem dX12_plain_28 : decode cX12_plain 28 = .ok (.iconst 0, 1) := by decide +kernel
theorem dX12_plain_29 : decode cX12_plain 29 = .ok (.iastore, 1) := by decide +kernel
theorem dX12_plain_30 : decode cX12_plain 30 = .ok (.aload_n 0, 1) := by decide +kernel
theorem dX12_plain_31 : decode cX12_plain 31 = .ok (.getfield 29, 3) := by decide +kernel
theorem dX12_plain_34 : decode cX12_plain 34 = .ok (.bipush 6, 2) := by decide +kernel
theorem dX12_plain_36 : decode cX12_plain 36 = .ok (.iconst 0, 1) := by decide +kernel
theorem dX12_plain_37 : decode cX12_plain 37 = .ok (.iastore, 1) := by decide +kernel
theorem dX12_plain_38 : decode cX12_plain 38 = .ok (.aload_n 0, 1) := by decide +kernel
theorem dX12_plain_39 : decode cX12_plain 39 = .ok (.getfield 29, 3) := by decide +kernel
theorem dX12_plain_42 : decode cX12_plain 42 = .ok (.bipush 7, 2) := by decide +kernel
theorem dX12_plain_44 : decode cX12_plain 44 = .ok (.iconst 0, 1) := by decide +kernel
theorem dX12_plain_45 : decode cX12_plain 45 = .ok (.iastore, 1) := by decide +kernel
theorem dX12_plain_46 : decode cX12_plain 46 = .ok (.aload_n 0, 1) := by decide +kernel
theorem dX12_plain_47 : decode cX12_plain 47 = .ok (.iconst 0, 1) := by decide +kernel
theorem dX12_plain_48 : decode cX12_plain 48 = .ok (.putfield 129, 3) := by decide +kernel
theorem dX12_plain_51 : decode cX12_plain 51 = .ok (.return_, 1) := by decide +kernel
theorem dX12_copies_0 : decode cX12_copies 0 = .ok (.iconst 0, 1) := by decide +kernel
theorem dX12_copies_1 : decode cX12_copies 1 = .ok (.istore_n 2, 1) := by decide +kernel
theorem dX12_copies_2 : decode cX12_copies 2 = .ok (.iload_n 2, 1) := by decide +kernel
theorem dX12_copies_3 : decode cX12_copies 3 = .ok (.iload_n 1, 1) := by decide +kernel
theorem dX12_copies_4 : decode cX12_copies 4 = .ok (.if_icmp .ge 17, 3) := by decide +kernel
theorem dX12_copies_7 : decode cX12_copies 7 = .ok (.aload_n 0, 1) := by decide +kernel
theorem dX12_copies_8 : decode cX12_copies 8 = .ok (.iload_n 2, 1) := by decide +kernel
theorem dX12_copies_9 : decode cX12_copies 9 = .ok (.aload_n 0, 1) := by decide +kernel
theorem dX12_copies_10 : decode cX12_copies 10 = .ok (.iload_n 1, 1) := by decide +kernel
theorem dX12_copies_11 : decode cX12_copies 11 = .ok (.iload_n 2, 1) := by decide +kernel
theorem dX12_copies_12 : decode cX12_copies 12 = .ok (.iadd, 1) := by decide +kernel
theorem dX12_copies_13 : decode cX12_copies 13 = .ok (.iaload, 1) := by decide +kernel
theorem dX12_copies_14 : decode cX12_copies 14 = .ok (.iastore, 1) := by decide +kernel
theorem dX12_copies_15 : decode cX12_copies 15 = .ok (.iinc 2 1, 3) := by decide +kernel
theorem dX12_copies_18 : decode cX12_copies 18 = .ok (.goto (-16), 3) := by decide +kernel
theorem dX12_copies_21 : decode cX12_copies 21 = .ok (.return_, 1) := by decide +kernel
theorem dX12_keepText_0 : decode cX12_keepText 0 = .ok (.aload_n 0, 1) := by decide +kernel
theorem dX12_keepText_1 : decode cX12_keepText 1 = .ok (.aload_n 0, 1) := by decide +kernel
theorem dX12_keepText_2 : decode cX12_keepText 2 = .ok (.getfield 120, 3) := by decide +kernel
theorem dX12_keepText_5 : decode cX12_keepText 5 = .ok (.putfield 132, 3) := by decide +kernel
theorem dX12_keepText_8 : decode cX12_keepText 8 = .ok (.aload_n 0, 1) := by decide +kernel
theorem dX12_keepText_9 : decode cX12_keepText 9 = .ok (.aload_n 0, 1) := by decide +kernel
theorem dX12_keepText_10 : decode cX12_keepText 10 = .ok (.getfield 123, 3) := by decide +kernel
theorem dX12_keepText_13 : decode cX12_keepText 13 = .ok (.putfield 135, 3) := by decide +kernel
theorem dX12_keepText_16 : decode cX12_keepText 16 = .ok (.aload_n 0, 1) := by decide +kernel
theorem dX12_keepText_17 : decode cX12_keepText 17 = .ok (.aload_n 0, 1) := by decide +kernel
theorem dX12_keepText_18 : decode cX12_keepText 18 = .ok (.getfield 126, 3) := by decide +kernel
theorem dX12_keepText_21 : decode cX12_keepText 21 = .ok (.putfield 138, 3) := by decide +kernel
theorem dX12_keepText_24 : decode cX12_keepText 24 = .ok (.aload_n 0, 1) := by decide +kernel
theorem dX12_keepText_25 : decode cX12_keepText 25 = .ok (.getfield 20, 3) := by decide +kernel
theorem dX12_keepText_28 : decode cX12_keepText 28 = .ok (.bipush 24, 2) := by decide +kernel
theorem dX12_keepText_30 : decode cX12_keepText 30 = .ok (.invokestatic 141, 3) := by decide +kernel
theorem dX12_keepText_33 : decode cX12_keepText 33 = .ok (.aload_n 0, 1) := by decide +kernel
theorem dX12_keepText_34 : decode cX12_keepText 34 = .ok (.getfield 23, 3) := by decide +kernel
theorem dX12_keepText_37 : decode cX12_keepText 37 = .ok (.bipush 48, 2) := by decide +kernel
theorem dX12_keepText_39 : decode cX12_keepText 39 = .ok (.invokestatic 141, 3) := by decide +kernel
theorem dX12_keepText_42 : decode cX12_keepText 42 = .ok (.aload_n 0, 1) := by decide +kernel
theorem dX12_keepText_43 : decode cX12_keepText 43 = .ok (.getfield 26, 3) := by decide +kernel
theorem dX12_keepText_46 : decode cX12_keepText 46 = .ok (.bipush 64, 2) := by decide +kernel
theorem dX12_keepText_48 : decode cX12_keepText 48 = .ok (.invokestatic 141, 3) := by decide +kernel
theorem dX12_keepText_51 : decode cX12_keepText 51 = .ok (.aload_n 0, 1) := by decide +kernel
theorem dX12_keepText_52 : decode cX12_keepText 52 = .ok (.getfield 29, 3) := by decide +kernel
theorem dX12_keepText_55 : decode cX12_keepText 55 = .ok (.iconst 4, 1) := by decide +kernel
theorem dX12_keepText_56 : decode cX12_keepText 56 = .ok (.invokestatic 141, 3) := by decide +kernel
theorem dX12_keepText_59 : decode cX12_keepText 59 = .ok (.aload_n 0, 1) := by decide +kernel
theorem dX12_keepText_60 : decode cX12_keepText 60 = .ok (.aload_n 0, 1) := by decide +kernel
theorem dX12_keepText_61 : decode cX12_keepText 61 = .ok (.getfield 29, 3) := by decide +kernel
theorem dX12_keepText_64 : decode cX12_keepText 64 = .ok (.iconst 3, 1) := by decide +kernel
theorem dX12_keepText_65 : decode cX12_keepText 65 = .ok (.iaload, 1) := by decide +kernel
theorem dX12_keepText_66 : decode cX12_keepText 66 = .ok (.putfield 145, 3) := by decide +kernel
theorem dX12_keepText_69 : decode cX12_keepText 69 = .ok (.aload_n 0, 1) := by decide +kernel
theorem dX12_keepText_70 : decode cX12_keepText 70 = .ok (.iconst 0, 1) := by decide +kernel
theorem dX12_keepText_71 : decode cX12_keepText 71 = .ok (.putfield 148, 3) := by decide +kernel
theorem dX12_keepText_74 : decode cX12_keepText 74 = .ok (.aload_n 0, 1) := by decide +kernel
theorem dX12_keepText_75 : decode cX12_keepText 75 = .ok (.iconst 0, 1) := by decide +kernel
theorem dX12_keepText_76 : decode cX12_keepText 76 = .ok (.putfield 151, 3) := by decide +kernel
theorem dX12_keepText_79 : decode cX12_keepText 79 = .ok (.aload_n 0, 1) := by decide +kernel
theorem dX12_keepText_80 : decode cX12_keepText 80 = .ok (.iconst 0, 1) := by decide +kernel
theorem dX12_keepText_81 : decode cX12_keepText 81 = .ok (.putfield 154, 3) := by decide +kernel
theorem dX12_keepText_84 : decode cX12_keepText 84 = .ok (.aload_n 0, 1) := by decide +kernel
theorem dX12_keepText_85 : decode cX12_keepText 85 = .ok (.iconst 0, 1) := by decide +kernel
theorem dX12_keepText_86 : decode cX12_keepText 86 = .ok (.iconst 0, 1) := by decide +kernel
theorem dX12_keepText_87 : decode cX12_keepText 87 = .ok (.invokevirtual 158, 3) := by decide +kernel
theorem dX12_keepText_90 : decode cX12_keepText 90 = .ok (.aload_n 0, 1) := by decide +kernel
theorem dX12_keepText_91 : decode cX12_keepText 91 = .ok (.bipush 103, 2) := by decide +kernel
theorem dX12_keepText_93 : decode cX12_keepText 93 = .ok (.aload_n 0, 1) := by decide +kernel
theorem dX12_keepText_94 : decode cX12_keepText 94 = .ok (.getfield 138, 3) := by decide +kernel
theorem dX12_keepText_97 : decode cX12_keepText 97 = .ok (.invokevirtual 158, 3) := by decide +kernel
theorem dX12_keepText_100 : decode cX12_keepText 100 = .ok (.iconst 0, 1) := by decide +kernel
theorem dX12_keepText_101 : decode cX12_keepText 101 = .ok (.istore_n 1, 1) := by decide +kernel
theorem dX12_keepText_102 : decode cX12_keepText 102 = .ok (.iload_n 1, 1) := by decide +kernel
theorem dX12_keepText_103 : decode cX12_keepText 103 = .ok (.aload_n 0, 1) := by decide +kernel
theorem dX12_keepText_104 : decode cX12_keepText 104 = .ok (.getfield 135, 3) := by decide +kernel
theorem dX12_keepText_107 : decode cX12_keepText 107 = .ok (.if_icmp .ge 27, 3) := by decide +kernel
theorem dX12_keepText_110 : decode cX12_keepText 110 = .ok (.aload_n 0, 1) := by decide +kernel
theorem dX12_keepText_111 : decode cX12_keepText 111 = .ok (.bipush 91, 2) := by decide +kernel
theorem dX12_keepText_113 : decode cX12_keepText 113 = .ok (.iload_n 1, 1) := by decide +kernel
theorem dX12_keepText_114 : decode cX12_keepText 114 = .ok (.iadd, 1) := by decide +kernel
theorem dX12_keepText_115 : decode cX12_keepText 115 = .ok (.aload_n 0, 1) := by decide +kernel
theorem dX12_keepText_116 : decode cX12_keepText 116 = .ok (.getfield 23, 3) := by decide +kernel
theorem dX12_keepText_119 : decode cX12_keepText 119 = .ok (.iconst 4, 1) := by decide +kernel
theorem dX12_keepText_120 : decode cX12_keepText 120 = .ok (.iload_n 1, 1) := by decide +kernel
theorem dX12_keepText_121 : decode cX12_keepText 121 = .ok (.imul, 1) := by decide +kernel
theorem dX12_keepText_122 : decode cX12_keepText 122 = .ok (.iconst 3, 1) := by decide +kernel
theorem dX12_keepText_123 : decode cX12_keepText 123 = .ok (.iadd, 1) := by decide +kernel
theorem dX12_keepText_124 : decode cX12_keepText 124 = .ok (.iaload, 1) := by decide +kernel
theorem dX12_keepText_125 : decode cX12_keepText 125 = .ok (.invokevirtual 158, 3) := by decide +kernel
theorem dX12_keepText_128 : decode cX12_keepText 128 = .ok (.iinc 1 1, 3) := by decide +kernel
theorem dX12_keepText_131 : decode cX12_keepText 131 = .ok (.goto (-29), 3) := by decide +kernel
theorem dX12_keepText_134 : decode cX12_keepText 134 = .ok (.iconst 0, 1) := by decide +kernel
theorem dX12_keepText_135 : decode cX12_keepText 135 = .ok (.istore_n 1, 1) := by decide +kernel
theorem dX12_keepText_136 : decode cX12_keepText 136 = .ok (.iload_n 1, 1) := by decide +kernel
theorem dX12_keepText_137 : decode cX12_keepText 137 = .ok (.iconst 4, 1) := by decide +kernel
theorem dX12_keepText_138 : decode cX12_keepText 138 = .ok (.aload_n 0, 1) := by decide +kernel
theorem dX12_keepText_139 : decode cX12_keepText 139 = .ok (.getfield 138, 3) := by decide +kernel
theorem dX12_keepText_142 : decode cX12_keepText 142 = .ok (.imul, 1) := by decide +kernel
theorem dX12_keepText_143 : decode cX12_keepText 143 = .ok (.if_icmp .ge 23, 3) := by decide +kernel
theorem dX12_keepText_146 : decode cX12_keepText 146 = .ok (.aload_n 0, 1) := by decide +kernel
theorem dX12_keepText_147 : decode cX12_keepText 147 = .ok (.bipush 104, 2) := by decide +kernel
theorem dX12_keepText_149 : decode cX12_keepText 149 = .ok (.iload_n 1, 1) := by decide +kernel
theorem dX12_keepText_150 : decode cX12_keepText 150 = .ok (.iadd, 1) := by decide +kernel
theorem dX12_keepText_151 : decode cX12_keepText 151 = .ok (.aload_n 0, 1) := by decide +kernel
theorem dX12_keepText_152 : decode cX12_keepText 152 = .ok (.getfield 26, 3) := by decide +kernel
theorem dX12_keepText_155 : decode cX12_keepText 155 = .ok (.iload_n 1, 1) := by decide +kernel
theorem dX12_keepText_156 : decode cX12_keepText 156 = .ok (.iaload, 1) := by decide +kernel
theorem dX12_keepText_157 : decode cX12_keepText 157 = .ok (.invokevirtual 158, 3) := by decide +kernel
theorem dX12_keepText_160 : decode cX12_keepText 160 = .ok (.iinc 1 1, 3) := by decide +kernel
theorem dX12_keepText_163 : decode cX12_keepText 163 = .ok (.goto (-27), 3) := by decide +kernel
theorem dX12_keepText_166 : decode cX12_keepText 166 = .ok (.return_, 1) := by decide +kernel
theorem dX12_nameAt_0 : decode cX12_nameAt 0 = .ok (.iconst 0, 1) := by decide +kernel
theorem dX12_nameAt_1 : decode cX12_nameAt 1 = .ok (.istore 4, 2) := by decide +kernel
theorem dX12_nameAt_3 : decode cX12_nameAt 3 = .ok (.iload 4, 2) := by decide +kernel
theorem dX12_nameAt_5 : decode cX12_nameAt 5 = .ok (.iload_n 3, 1) := by decide +kernel
theorem dX12_nameAt_6 : decode cX12_nameAt 6 = .ok (.if_icmp .ge 27, 3) := by decide +kernel
theorem dX12_nameAt_9 : decode cX12_nameAt 9 = .ok (.aload_n 0, 1) := by decide +kernel
theorem dX12_nameAt_10 : decode cX12_nameAt 10 = .ok (.getfield 20, 3) := by decide +kernel
theorem dX12_nameAt_13 : decode cX12_nameAt 13 = .ok (.iload_n 2, 1) := by decide +kernel
theorem dX12_nameAt_14 : decode cX12_nameAt 14 = .ok (.iconst 3, 1) := by decide +kernel
theorem dX12_nameAt_15 : decode cX12_nameAt 15 = .ok (.iload 4, 2) := by decide +kernel
theorem dX12_nameAt_17 : decode cX12_nameAt 17 = .ok (.imul, 1) := by decide +kernel
theorem dX12_nameAt_18 : decode cX12_nameAt 18 = .ok (.iadd, 1) := by decide +kernel
theorem dX12_nameAt_19 : decode cX12_nameAt 19 = .ok (.iaload, 1) := by decide +kernel
theorem dX12_nameAt_20 : decode cX12_nameAt 20 = .ok (.iload_n 1, 1) := by decide +kernel
theorem dX12_nameAt_21 : decode cX12_nameAt 21 = .ok (.if_icmp .ne 6, 3) := by decide +kernel
theorem dX12_nameAt_24 : decode cX12_nameAt 24 = .ok (.iload 4, 2) := by decide +kernel
theorem dX12_nameAt_26 : decode cX12_nameAt 26 = .ok (.ireturn, 1) := by decide +kernel
theorem dX12_nameAt_27 : decode cX12_nameAt 27 = .ok (.iinc 4 1, 3) := by decide +kernel
theorem dX12_nameAt_30 : decode cX12_nameAt 30 = .ok (.goto (-27), 3) := by decide +kernel
theorem dX12_nameAt_33 : decode cX12_nameAt 33 = .ok (.iconst (-1), 1) := by decide +kernel
theorem dX12_nameAt_34 : decode cX12_nameAt 34 = .ok (.ireturn, 1) := by decide +kernel
theorem dX12_signed_0 : decode cX12_signed 0 = .ok (.aload_n 0, 1) := by decide +kernel
theorem dX12_signed_1 : decode cX12_signed 1 = .ok (.getfield 99, 3) := by decide +kernel
theorem dX12_signed_4 : decode cX12_signed 4 = .ok (.iconst 3, 1) := by decide +kernel
theorem dX12_signed_5 : decode cX12_signed 5 = .ok (.if_icmp .eq 18, 3) := by decide +kernel
theorem dX12_signed_8 : decode cX12_signed 8 = .ok (.aload_n 0, 1) := by decide +kernel
theorem dX12_signed_9 : decode cX12_signed 9 = .ok (.getfield 99, 3) := by decide +kernel
theorem dX12_signed_12 : decode cX12_signed 12 = .ok (.bipush 6, 2) := by decide +kernel
theorem dX12_signed_14 : decode cX12_signed 14 = .ok (.if_icmp .eq 9, 3) := by decide +kernel
theorem dX12_signed_17 : decode cX12_signed 17 = .ok (.aload_n 0, 1) := by decide +kernel
theorem dX12_signed_18 : decode cX12_signed 18 = .ok (.iconst 1, 1) := by decide +kernel
theorem dX12_signed_19 : decode cX12_signed 19 = .ok (.invokevirtual 162, 3) := by decide +kernel
theorem dX12_signed_22 : decode cX12_signed 22 = .ok (.ireturn, 1) := by decide +kernel
theorem dX12_signed_23 : decode cX12_signed 23 = .ok (.aload_n 0, 1) := by decide +kernel
theorem dX12_signed_24 : decode cX12_signed 24 = .ok (.getfield 110, 3) := by decide +kernel
theorem dX12_signed_27 : decode cX12_signed 27 = .ok (.iload_n 1, 1) := by decide +kernel
theorem dX12_signed_28 : decode cX12_signed 28 = .ok (.iload_n 2, 1) := by decide +kernel
theorem dX12_signed_29 : decode cX12_signed 29 = .ok (.invokestatic 165, 3) := by decide +kernel
theorem dX12_signed_32 : decode cX12_signed 32 = .ok (.ifCond .ne 9, 3) := by decide +kernel
theorem dX12_signed_35 : decode cX12_signed 35 = .ok (.aload_n 0, 1) := by decide +kernel
theorem dX12_signed_36 : decode cX12_signed 36 = .ok (.iconst 2, 1) := by decide +kernel
theorem dX12_signed_37 : decode cX12_signed 37 = .ok (.invokevirtual 162, 3) := by decide +kernel
theorem dX12_signed_40 : decode cX12_signed 40 = .ok (.ireturn, 1) := by decide +kernel
theorem dX12_signed_41 : decode cX12_signed 41 = .ok (.aload_n 0, 1) := by decide +kernel
theorem dX12_signed_42 : decode cX12_signed 42 = .ok (.aload_n 0, 1) := by decide +kernel
theorem dX12_signed_43 : decode cX12_signed 43 = .ok (.getfield 110, 3) := by decide +kernel
theorem dX12_signed_46 : decode cX12_signed 46 = .ok (.putfield 169, 3) := by decide +kernel
theorem dX12_signed_49 : decode cX12_signed 49 = .ok (.aload_n 0, 1) := by decide +kernel
theorem dX12_signed_50 : decode cX12_signed 50 = .ok (.invokevirtual 172, 3) := by decide +kernel
theorem dX12_signed_53 : decode cX12_signed 53 = .ok (.iconst 1, 1) := by decide +kernel
theorem dX12_signed_54 : decode cX12_signed 54 = .ok (.ireturn, 1) := by decide +kernel
theorem dX12_number_0 : decode cX12_number 0 = .ok (.aload_n 0, 1) := by decide +kernel
theorem dX12_number_1 : decode cX12_number 1 = .ok (.getfield 99, 3) := by decide +kernel
theorem dX12_number_4 : decode cX12_number 4 = .ok (.iconst 3, 1) := by decide +kernel
theorem dX12_number_5 : decode cX12_number 5 = .ok (.if_icmp .ne 12, 3) := by decide +kernel
theorem dX12_number_8 : decode cX12_number 8 = .ok (.aload_n 0, 1) := by decide +kernel
theorem dX12_number_9 : decode cX12_number 9 = .ok (.iload_n 1, 1) := by decide +kernel
theorem dX12_number_10 : decode cX12_number 10 = .ok (.iload_n 2, 1) := by decide +kernel
theorem dX12_number_11 : decode cX12_number 11 = .ok (.invokevirtual 175, 3) := by decide +kernel
theorem dX12_number_14 : decode cX12_number 14 = .ok (.goto 8, 3) := by decide +kernel
theorem dX12_number_17 : decode cX12_number 17 = .ok (.aload_n 0, 1) := by decide +kernel
theorem dX12_number_18 : decode cX12_number 18 = .ok (.iconst 1, 1) := by decide +kernel
theorem dX12_number_19 : decode cX12_number 19 = .ok (.invokevirtual 162, 3) := by decide +kernel
theorem dX12_number_22 : decode cX12_number 22 = .ok (.ireturn, 1) := by decide +kernel
theorem dX12_memberRead_0 : decode cX12_memberRead 0 = .ok (.aload_n 0, 1) := by decide +kernel
theorem dX12_memberRead_1 : decode cX12_memberRead 1 = .ok (.invokevirtual 172, 3) := by decide +kernel
theorem dX12_memberRead_4 : decode cX12_memberRead 4 = .ok (.aload_n 0, 1) := by decide +kernel
theorem dX12_memberRead_5 : decode cX12_memberRead 5 = .ok (.getfield 99, 3) := by decide +kernel
theorem dX12_memberRead_8 : decode cX12_memberRead 8 = .ok (.iconst 2, 1) := by decide +kernel
theorem dX12_memberRead_9 : decode cX12_memberRead 9 = .ok (.if_icmp .eq 9, 3) := by decide +kernel
theorem dX12_memberRead_12 : decode cX12_memberRead 12 = .ok (.aload_n 0, 1) := by decide +kernel
theorem dX12_memberRead_13 : decode cX12_memberRead 13 = .ok (.iconst 1, 1) := by decide +kernel
theorem dX12_memberRead_14 : decode cX12_memberRead 14 = .ok (.invokevirtual 162, 3) := by decide +kernel
theorem dX12_memberRead_17 : decode cX12_memberRead 17 = .ok (.ireturn, 1) := by decide +kernel
theorem dX12_memberRead_18 : decode cX12_memberRead 18 = .ok (.aload_n 0, 1) := by decide +kernel
theorem dX12_memberRead_19 : decode cX12_memberRead 19 = .ok (.aload_n 0, 1) := by decide +kernel
theorem dX12_memberRead_20 : decode cX12_memberRead 20 = .ok (.aload_n 0, 1) := by decide +kernel
theorem dX12_memberRead_21 : decode cX12_memberRead 21 = .ok (.getfield 110, 3) := by decide +kernel
theorem dX12_memberRead_24 : decode cX12_memberRead 24 = .ok (.bipush 24, 2) := by decide +kernel
theorem dX12_memberRead_26 : decode cX12_memberRead 26 = .ok (.aload_n 0, 1) := by decide +kernel
theorem dX12_memberRead_27 : decode cX12_memberRead 27 = .ok (.getfield 120, 3) := by decide +kernel
theorem dX12_memberRead_30 : decode cX12_memberRead 30 = .ok (.invokevirtual 179, 3) := by decide +kernel
theorem dX12_memberRead_33 : decode cX12_memberRead 33 = .ok (.putfield 169, 3) := by decide +kernel
theorem dX12_memberRead_36 : decode cX12_memberRead 36 = .ok (.aload_n 0, 1) := by decide +kernel
theorem dX12_memberRead_37 : decode cX12_memberRead 37 = .ok (.getfield 169, 3) := by decide +kernel
theorem dX12_memberRead_40 : decode cX12_memberRead 40 = .ok (.ifCond .ge 11, 3) := by decide +kernel
theorem dX12_memberRead_43 : decode cX12_memberRead 43 = .ok (.aload_n 0, 1) := by decide +kernel
theorem dX12_memberRead_44 : decode cX12_memberRead 44 = .ok (.iconst 4, 1) := by decide +kernel
theorem dX12_memberRead_45 : decode cX12_memberRead 45 = .ok (.invokevirtual 162, 3) := by decide +kernel
theorem dX12_memberRead_48 : decode cX12_memberRead 48 = .ok (.ifCond .eq 7, 3) := by decide +kernel
theorem dX12_memberRead_51 : decode cX12_memberRead 51 = .ok (.iconst 1, 1) := by decide +kernel
theorem dX12_memberRead_52 : decode cX12_memberRead 52 = .ok (.goto 4, 3) := by decide +kernel
theorem dX12_memberRead_55 : decode cX12_memberRead 55 = .ok (.iconst 0, 1) := by decide +kernel
theorem dX12_memberRead_56 : decode cX12_memberRead 56 = .ok (.ireturn, 1) := by decide +kernel
theorem dX12_memberLine_0 : decode cX12_memberLine 0 = .ok (.aload_n 0, 1) := by decide +kernel
theorem dX12_memberLine_1 : decode cX12_memberLine 1 = .ok (.getfield 120, 3) := by decide +kernel
theorem dX12_memberLine_4 : decode cX12_memberLine 4 = .ok (.bipush 8, 2) := by decide +kernel
theorem dX12_memberLine_6 : decode cX12_memberLine 6 = .ok (.if_icmp .ne 9, 3) := by decide +kernel
theorem dX12_memberLine_9 : decode cX12_memberLine 9 = .ok (.aload_n 0, 1) := by decide +kernel
theorem dX12_memberLine_10 : decode cX12_memberLine 10 = .ok (.iconst 2, 1) := by decide +kernel
theorem dX12_memberLine_11 : decode cX12_memberLine 11 = .ok (.invokevirtual 162, 3) := by decide +kernel
theorem dX12_memberLine_14 : decode cX12_memberLine 14 = .ok (.ireturn, 1) := by decide +kernel
theorem dX12_memberLine_15 : decode cX12_memberLine 15 = .ok (.aload_n 0, 1) := by decide +kernel
theorem dX12_memberLine_16 : decode cX12_memberLine 16 = .ok (.invokevirtual 172, 3) := by decide +kernel
theorem dX12_memberLine_19 : decode cX12_memberLine 19 = .ok (.aload_n 0, 1) := by decide +kernel
theorem dX12_memberLine_20 : decode cX12_memberLine 20 = .ok (.getfield 99, 3) := by decide +kernel
theorem dX12_memberLine_23 : decode cX12_memberLine 23 = .ok (.iconst 2, 1) := by decide +kernel
theorem dX12_memberLine_24 : decode cX12_memberLine 24 = .ok (.if_icmp .eq 9, 3) := by decide +kernel
theorem dX12_memberLine_27 : decode cX12_memberLine 27 = .ok (.aload_n 0, 1) := by decide +kernel
theorem dX12_memberLine_28 : decode cX12_memberLine 28 = .ok (.iconst 1, 1) := by decide +kernel
theorem dX12_memberLine_29 : decode cX12_memberLine 29 = .ok (.invokevirtual 162, 3) := by decide +kernel
theorem dX12_memberLine_32 : decode cX12_memberLine 32 = .ok (.ireturn, 1) := by decide +kernel
theorem dX12_memberLine_33 : decode cX12_memberLine 33 = .ok (.aload_n 0, 1) := by decide +kernel
theorem dX12_memberLine_34 : decode cX12_memberLine 34 = .ok (.aload_n 0, 1) := by decide +kernel
theorem dX12_memberLine_35 : decode cX12_memberLine 35 = .ok (.getfield 110, 3) := by decide +kernel
theorem dX12_memberLine_38 : decode cX12_memberLine 38 = .ok (.bipush 24, 2) := by decide +kernel
theorem dX12_memberLine_40 : decode cX12_memberLine 40 = .ok (.aload_n 0, 1) := by decide +kernel
theorem dX12_memberLine_41 : decode cX12_memberLine 41 = .ok (.getfield 120, 3) := by decide +kernel
theorem dX12_memberLine_44 : decode cX12_memberLine 44 = .ok (.invokevirtual 179, 3) := by decide +kernel
theorem dX12_memberLine_47 : decode cX12_memberLine 47 = .ok (.ifCond .lt 9, 3) := by decide +kernel
theorem dX12_memberLine_50 : decode cX12_memberLine 50 = .ok (.aload_n 0, 1) := by decide +kernel
theorem dX12_memberLine_51 : decode cX12_memberLine 51 = .ok (.iconst 3, 1) := by decide +kernel
theorem dX12_memberLine_52 : decode cX12_memberLine 52 = .ok (.invokevirtual 162, 3) := by decide +kernel
theorem dX12_memberLine_55 : decode cX12_memberLine 55 = .ok (.ireturn, 1) := by decide +kernel
theorem dX12_memberLine_56 : decode cX12_memberLine 56 = .ok (.bipush 24, 2) := by decide +kernel
theorem dX12_memberLine_58 : decode cX12_memberLine 58 = .ok (.iconst 3, 1) := by decide +kernel
theorem dX12_memberLine_59 : decode cX12_memberLine 59 = .ok (.aload_n 0, 1) := by decide +kernel
theorem dX12_memberLine_60 : decode cX12_memberLine 60 = .ok (.getfield 120, 3) := by decide +kernel
theorem dX12_memberLine_63 : decode cX12_memberLine 63 = .ok (.imul, 1) := by decide +kernel
theorem dX12_memberLine_64 : decode cX12_memberLine 64 = .ok (.iadd, 1) := by decide +kernel
theorem dX12_memberLine_65 : decode cX12_memberLine 65 = .ok (.istore_n 1, 1) := by decide +kernel
theorem dX12_memberLine_66 : decode cX12_memberLine 66 = .ok (.aload_n 0, 1) := by decide +kernel
theorem dX12_memberLine_67 : decode cX12_memberLine 67 = .ok (.getfield 20, 3) := by decide +kernel
theorem dX12_memberLine_70 : decode cX12_memberLine 70 = .ok (.iload_n 1, 1) := by decide +kernel
theorem dX12_memberLine_71 : decode cX12_memberLine 71 = .ok (.aload_n 0, 1) := by decide +kernel
theorem dX12_memberLine_72 : decode cX12_memberLine 72 = .ok (.getfield 110, 3) := by decide +kernel
theorem dX12_memberLine_75 : decode cX12_memberLine 75 = .ok (.iastore, 1) := by decide +kernel
theorem dX12_memberLine_76 : decode cX12_memberLine 76 = .ok (.aload_n 0, 1) := by decide +kernel
theorem dX12_memberLine_77 : decode cX12_memberLine 77 = .ok (.invokevirtual 172, 3) := by decide +kernel
theorem dX12_memberLine_80 : decode cX12_memberLine 80 = .ok (.aload_n 0, 1) := by decide +kernel
theorem dX12_memberLine_81 : decode cX12_memberLine 81 = .ok (.iconst 0, 1) := by decide +kernel
theorem dX12_memberLine_82 : decode cX12_memberLine 82 = .ok (.bipush 99, 2) := by decide +kernel
theorem dX12_memberLine_84 : decode cX12_memberLine 84 = .ok (.invokevirtual 183, 3) := by decide +kernel
theorem dX12_memberLine_87 : decode cX12_memberLine 87 = .ok (.ifCond .ne 5, 3) := by decide +kernel
theorem dX12_memberLine_90 : decode cX12_memberLine 90 = .ok (.iconst 0, 1) := by decide +kernel
theorem dX12_memberLine_91 : decode cX12_memberLine 91 = .ok (.ireturn, 1) := by decide +kernel
theorem dX12_memberLine_92 : decode cX12_memberLine 92 = .ok (.aload_n 0, 1) := by decide +kernel
theorem dX12_memberLine_93 : decode cX12_memberLine 93 = .ok (.getfield 20, 3) := by decide +kernel
theorem dX12_memberLine_96 : decode cX12_memberLine 96 = .ok (.iload_n 1, 1) := by decide +kernel
theorem dX12_memberLine_97 : decode cX12_memberLine 97 = .ok (.iconst 1, 1) := by decide +kernel
theorem dX12_memberLine_98 : decode cX12_memberLine 98 = .ok (.iadd, 1) := by decide +kernel
theorem dX12_memberLine_99 : decode cX12_memberLine 99 = .ok (.aload_n 0, 1) := by decide +kernel
theorem dX12_memberLine_100 : decode cX12_memberLine 100 = .ok (.getfield 169, 3) := by decide +kernel
theorem dX12_memberLine_103 : decode cX12_memberLine 103 = .ok (.iastore, 1) := by decide +kernel
theorem dX12_memberLine_104 : decode cX12_memberLine 104 = .ok (.aload_n 0, 1) := by decide +kernel
theorem dX12_memberLine_105 : decode cX12_memberLine 105 = .ok (.iconst 0, 1) := by decide +kernel
theorem dX12_memberLine_106 : decode cX12_memberLine 106 = .ok (.bipush 99, 2) := by decide +kernel
theorem dX12_memberLine_108 : decode cX12_memberLine 108 = .ok (.invokevirtual 183, 3) := by decide +kernel
theorem dX12_memberLine_111 : decode cX12_memberLine 111 = .ok (.ifCond .ne 5, 3) := by decide +kernel
theorem dX12_memberLine_114 : decode cX12_memberLine 114 = .ok (.iconst 0, 1) := by decide +kernel
theorem dX12_memberLine_115 : decode cX12_memberLine 115 = .ok (.ireturn, 1) := by decide +kernel
theorem dX12_memberLine_116 : decode cX12_memberLine 116 = .ok (.aload_n 0, 1) := by decide +kernel
theorem dX12_memberLine_117 : decode cX12_memberLine 117 = .ok (.getfield 20, 3) := by decide +kernel
theorem dX12_memberLine_120 : decode cX12_memberLine 120 = .ok (.iload_n 1, 1) := by decide +kernel
theorem dX12_memberLine_121 : decode cX12_memberLine 121 = .ok (.iconst 2, 1) := by decide +kernel
theorem dX12_memberLine_122 : decode cX12_memberLine 122 = .ok (.iadd, 1) := by decide +kernel
theorem dX12_memberLine_123 : decode cX12_memberLine 123 = .ok (.aload_n 0, 1) := by decide +kernel
theorem dX12_memberLine_124 : decode cX12_memberLine 124 = .ok (.getfield 169, 3) := by decide +kernel
theorem dX12_memberLine_127 : decode cX12_memberLine 127 = .ok (.iastore, 1) := by decide +kernel
theorem dX12_memberLine_128 : decode cX12_memberLine 128 = .ok (.aload_n 0, 1) := by decide +kernel
theorem dX12_memberLine_129 : decode cX12_memberLine 129 = .ok (.dup, 1) := by decide +kernel
theorem dX12_memberLine_130 : decode cX12_memberLine 130 = .ok (.getfield 120, 3) := by decide +kernel
theorem dX12_memberLine_133 : decode cX12_memberLine 133 = .ok (.iconst 1, 1) := by decide +kernel
theorem dX12_memberLine_134 : decode cX12_memberLine 134 = .ok (.iadd, 1) := by decide +kernel
theorem dX12_memberLine_135 : decode cX12_memberLine 135 = .ok (.putfield 120, 3) := by decide +kernel
theorem dX12_memberLine_138 : decode cX12_memberLine 138 = .ok (.iconst 1, 1) := by decide +kernel
theorem dX12_memberLine_139 : decode cX12_memberLine 139 = .ok (.ireturn, 1) := by decide +kernel
theorem dX12_ownsLine_0 : decode cX12_ownsLine 0 = .ok (.aload_n 0, 1) := by decide +kernel
theorem dX12_ownsLine_1 : decode cX12_ownsLine 1 = .ok (.getfield 126, 3) := by decide +kernel
theorem dX12_ownsLine_4 : decode cX12_ownsLine 4 = .ok (.bipush 16, 2) := by decide +kernel
theorem dX12_ownsLine_6 : decode cX12_ownsLine 6 = .ok (.if_icmp .ne 9, 3) := by decide +kernel
theorem dX12_ownsLine_9 : decode cX12_ownsLine 9 = .ok (.aload_n 0, 1) := by decide +kernel
theorem dX12_ownsLine_10 : decode cX12_ownsLine 10 = .ok (.iconst 2, 1) := by decide +kernel
theorem dX12_ownsLine_11 : decode cX12_ownsLine 11 = .ok (.invokevirtual 162, 3) := by decide +kernel
theorem dX12_ownsLine_14 : decode cX12_ownsLine 14 = .ok (.ireturn, 1) := by decide +kernel
theorem dX12_ownsLine_15 : decode cX12_ownsLine 15 = .ok (.bipush 64, 2) := by decide +kernel
theorem dX12_ownsLine_17 : decode cX12_ownsLine 17 = .ok (.iconst 4, 1) := by decide +kernel
theorem dX12_ownsLine_18 : decode cX12_ownsLine 18 = .ok (.aload_n 0, 1) := by decide +kernel
theorem dX12_ownsLine_19 : decode cX12_ownsLine 19 = .ok (.getfield 126, 3) := by decide +kernel
theorem dX12_ownsLine_22 : decode cX12_ownsLine 22 = .ok (.imul, 1) := by decide +kernel
theorem dX12_ownsLine_23 : decode cX12_ownsLine 23 = .ok (.iadd, 1) := by decide +kernel
theorem dX12_ownsLine_24 : decode cX12_ownsLine 24 = .ok (.istore_n 1, 1) := by decide +kernel
theorem dX12_ownsLine_25 : decode cX12_ownsLine 25 = .ok (.aload_n 0, 1) := by decide +kernel
theorem dX12_ownsLine_26 : decode cX12_ownsLine 26 = .ok (.invokevirtual 186, 3) := by decide +kernel
theorem dX12_ownsLine_29 : decode cX12_ownsLine 29 = .ok (.ifCond .ne 5, 3) := by decide +kernel
theorem dX12_ownsLine_32 : decode cX12_ownsLine 32 = .ok (.iconst 0, 1) := by decide +kernel
theorem dX12_ownsLine_33 : decode cX12_ownsLine 33 = .ok (.ireturn, 1) := by decide +kernel
theorem dX12_ownsLine_34 : decode cX12_ownsLine 34 = .ok (.aload_n 0, 1) := by decide +kernel
theorem dX12_ownsLine_35 : decode cX12_ownsLine 35 = .ok (.getfield 26, 3) := by decide +kernel
theorem dX12_ownsLine_38 : decode cX12_ownsLine 38 = .ok (.iload_n 1, 1) := by decide +kernel
theorem dX12_ownsLine_39 : decode cX12_ownsLine 39 = .ok (.aload_n 0, 1) := by decide +kernel
theorem dX12_ownsLine_40 : decode cX12_ownsLine 40 = .ok (.getfield 169, 3) := by decide +kernel
theorem dX12_ownsLine_43 : decode cX12_ownsLine 43 = .ok (.iastore, 1) := by decide +kernel
theorem dX12_ownsLine_44 : decode cX12_ownsLine 44 = .ok (.aload_n 0, 1) := by decide +kernel
theorem dX12_ownsLine_45 : decode cX12_ownsLine 45 = .ok (.invokevirtual 186, 3) := by decide +kernel
theorem dX12_ownsLine_48 : decode cX12_ownsLine 48 = .ok (.ifCond .ne 5, 3) := by decide +kernel
theorem dX12_ownsLine_51 : decode cX12_ownsLine 51 = .ok (.iconst 0, 1) := by decide +kernel
theorem dX12_ownsLine_52 : decode cX12_ownsLine 52 = .ok (.ireturn, 1) := by decide +kernel
theorem dX12_ownsLine_53 : decode cX12_ownsLine 53 = .ok (.aload_n 0, 1) := by decide +kernel
theorem dX12_ownsLine_54 : decode cX12_ownsLine 54 = .ok (.getfield 169, 3) := by decide +kernel
theorem dX12_ownsLine_57 : decode cX12_ownsLine 57 = .ok (.aload_n 0, 1) := by decide +kernel
theorem dX12_ownsLine_58 : decode cX12_ownsLine 58 = .ok (.getfield 26, 3) := by decide +kernel
theorem dX12_ownsLine_61 : decode cX12_ownsLine 61 = .ok (.iload_n 1, 1) := by decide +kernel
theorem dX12_ownsLine_62 : decode cX12_ownsLine 62 = .ok (.iaload, 1) := by decide +kernel
theorem dX12_ownsLine_63 : decode cX12_ownsLine 63 = .ok (.if_icmp .gt 9, 3) := by decide +kernel
theorem dX12_ownsLine_66 : decode cX12_ownsLine 66 = .ok (.aload_n 0, 1) := by decide +kernel
theorem dX12_ownsLine_67 : decode cX12_ownsLine 67 = .ok (.iconst 2, 1) := by decide +kernel
theorem dX12_ownsLine_68 : decode cX12_ownsLine 68 = .ok (.invokevirtual 162, 3) := by decide +kernel
theorem dX12_ownsLine_71 : decode cX12_ownsLine 71 = .ok (.ireturn, 1) := by decide +kernel
theorem dX12_ownsLine_72 : decode cX12_ownsLine 72 = .ok (.aload_n 0, 1) := by decide +kernel
theorem dX12_ownsLine_73 : decode cX12_ownsLine 73 = .ok (.getfield 26, 3) := by decide +kernel
theorem dX12_ownsLine_76 : decode cX12_ownsLine 76 = .ok (.iload_n 1, 1) := by decide +kernel
theorem dX12_ownsLine_77 : decode cX12_ownsLine 77 = .ok (.iconst 1, 1) := by decide +kernel
theorem dX12_ownsLine_78 : decode cX12_ownsLine 78 = .ok (.iadd, 1) := by decide +kernel
theorem dX12_ownsLine_79 : decode cX12_ownsLine 79 = .ok (.aload_n 0, 1) := by decide +kernel
theorem dX12_ownsLine_80 : decode cX12_ownsLine 80 = .ok (.getfield 169, 3) := by decide +kernel
theorem dX12_ownsLine_83 : decode cX12_ownsLine 83 = .ok (.iastore, 1) := by decide +kernel
theorem dX12_ownsLine_84 : decode cX12_ownsLine 84 = .ok (.aload_n 0, 1) := by decide +kernel
theorem dX12_ownsLine_85 : decode cX12_ownsLine 85 = .ok (.invokevirtual 172, 3) := by decide +kernel
theorem dX12_ownsLine_88 : decode cX12_ownsLine 88 = .ok (.aload_n 0, 1) := by decide +kernel
theorem dX12_ownsLine_89 : decode cX12_ownsLine 89 = .ok (.iconst 0, 1) := by decide +kernel
theorem dX12_ownsLine_90 : decode cX12_ownsLine 90 = .ok (.bipush 100, 2) := by decide +kernel
theorem dX12_ownsLine_92 : decode cX12_ownsLine 92 = .ok (.invokevirtual 183, 3) := by decide +kernel
theorem dX12_ownsLine_95 : decode cX12_ownsLine 95 = .ok (.ifCond .ne 5, 3) := by decide +kernel
theorem dX12_ownsLine_98 : decode cX12_ownsLine 98 = .ok (.iconst 0, 1) := by decide +kernel
theorem dX12_ownsLine_99 : decode cX12_ownsLine 99 = .ok (.ireturn, 1) := by decide +kernel
theorem dX12_ownsLine_100 : decode cX12_ownsLine 100 = .ok (.aload_n 0, 1) := by decide +kernel
theorem dX12_ownsLine_101 : decode cX12_ownsLine 101 = .ok (.getfield 26, 3) := by decide +kernel
theorem dX12_ownsLine_104 : decode cX12_ownsLine 104 = .ok (.iload_n 1, 1) := by decide +kernel
theorem dX12_ownsLine_105 : decode cX12_ownsLine 105 = .ok (.iconst 2, 1) := by decide +kernel
theorem dX12_ownsLine_106 : decode cX12_ownsLine 106 = .ok (.iadd, 1) := by decide +kernel
theorem dX12_ownsLine_107 : decode cX12_ownsLine 107 = .ok (.aload_n 0, 1) := by decide +kernel
theorem dX12_ownsLine_108 : decode cX12_ownsLine 108 = .ok (.getfield 169, 3) := by decide +kernel
theorem dX12_ownsLine_111 : decode cX12_ownsLine 111 = .ok (.iastore, 1) := by decide +kernel
theorem dX12_ownsLine_112 : decode cX12_ownsLine 112 = .ok (.aload_n 0, 1) := by decide +kernel
theorem dX12_ownsLine_113 : decode cX12_ownsLine 113 = .ok (.iconst 0, 1) := by decide +kernel
theorem dX12_ownsLine_114 : decode cX12_ownsLine 114 = .ok (.sipush 999, 3) := by decide +kernel
theorem dX12_ownsLine_117 : decode cX12_ownsLine 117 = .ok (.invokevirtual 183, 3) := by decide +kernel
theorem dX12_ownsLine_120 : decode cX12_ownsLine 120 = .ok (.ifCond .ne 5, 3) := by decide +kernel
theorem dX12_ownsLine_123 : decode cX12_ownsLine 123 = .ok (.iconst 0, 1) := by decide +kernel
theorem dX12_ownsLine_124 : decode cX12_ownsLine 124 = .ok (.ireturn, 1) := by decide +kernel
theorem dX12_ownsLine_125 : decode cX12_ownsLine 125 = .ok (.aload_n 0, 1) := by decide +kernel
theorem dX12_ownsLine_126 : decode cX12_ownsLine 126 = .ok (.getfield 26, 3) := by decide +kernel
theorem dX12_ownsLine_129 : decode cX12_ownsLine 129 = .ok (.iload_n 1, 1) := by decide +kernel
theorem dX12_ownsLine_130 : decode cX12_ownsLine 130 = .ok (.iconst 3, 1) := by decide +kernel
theorem dX12_ownsLine_131 : decode cX12_ownsLine 131 = .ok (.iadd, 1) := by decide +kernel
theorem dX12_ownsLine_132 : decode cX12_ownsLine 132 = .ok (.aload_n 0, 1) := by decide +kernel
theorem dX12_ownsLine_133 : decode cX12_ownsLine 133 = .ok (.getfield 169, 3) := by decide +kernel
theorem dX12_ownsLine_136 : decode cX12_ownsLine 136 = .ok (.iastore, 1) := by decide +kernel
theorem dX12_ownsLine_137 : decode cX12_ownsLine 137 = .ok (.aload_n 0, 1) := by decide +kernel
theorem dX12_ownsLine_138 : decode cX12_ownsLine 138 = .ok (.dup, 1) := by decide +kernel
theorem dX12_ownsLine_139 : decode cX12_ownsLine 139 = .ok (.getfield 126, 3) := by decide +kernel
theorem dX12_ownsLine_142 : decode cX12_ownsLine 142 = .ok (.iconst 1, 1) := by decide +kernel
theorem dX12_ownsLine_143 : decode cX12_ownsLine 143 = .ok (.iadd, 1) := by decide +kernel
theorem dX12_ownsLine_144 : decode cX12_ownsLine 144 = .ok (.putfield 126, 3) := by decide +kernel
theorem dX12_ownsLine_147 : decode cX12_ownsLine 147 = .ok (.iconst 1, 1) := by decide +kernel
theorem dX12_ownsLine_148 : decode cX12_ownsLine 148 = .ok (.ireturn, 1) := by decide +kernel
theorem dX12_periodLine_0 : decode cX12_periodLine 0 = .ok (.aload_n 0, 1) := by decide +kernel
theorem dX12_periodLine_1 : decode cX12_periodLine 1 = .ok (.getfield 123, 3) := by decide +kernel
theorem dX12_periodLine_4 : decode cX12_periodLine 4 = .ok (.bipush 12, 2) := by decide +kernel
theorem dX12_periodLine_6 : decode cX12_periodLine 6 = .ok (.if_icmp .ne 9, 3) := by decide +kernel
theorem dX12_periodLine_9 : decode cX12_periodLine 9 = .ok (.aload_n 0, 1) := by decide +kernel
theorem dX12_periodLine_10 : decode cX12_periodLine 10 = .ok (.iconst 2, 1) := by decide +kernel
theorem dX12_periodLine_11 : decode cX12_periodLine 11 = .ok (.invokevirtual 162, 3) := by decide +kernel
theorem dX12_periodLine_14 : decode cX12_periodLine 14 = .ok (.ireturn, 1) := by decide +kernel
theorem dX12_periodLine_15 : decode cX12_periodLine 15 = .ok (.bipush 48, 2) := by decide +kernel
theorem dX12_periodLine_17 : decode cX12_periodLine 17 = .ok (.iconst 4, 1) := by decide +kernel
theorem dX12_periodLine_18 : decode cX12_periodLine 18 = .ok (.aload_n 0, 1) := by decide +kernel
theorem dX12_periodLine_19 : decode cX12_periodLine 19 = .ok (.getfield 123, 3) := by decide +kernel
theorem dX12_periodLine_22 : decode cX12_periodLine 22 = .ok (.imul, 1) := by decide +kernel
theorem dX12_periodLine_23 : decode cX12_periodLine 23 = .ok (.iadd, 1) := by decide +kernel
theorem dX12_periodLine_24 : decode cX12_periodLine 24 = .ok (.istore_n 1, 1) := by decide +kernel
theorem dX12_periodLine_25 : decode cX12_periodLine 25 = .ok (.aload_n 0, 1) := by decide +kernel
theorem dX12_periodLine_26 : decode cX12_periodLine 26 = .ok (.invokevirtual 186, 3) := by decide +kernel
theorem dX12_periodLine_29 : decode cX12_periodLine 29 = .ok (.ifCond .ne 5, 3) := by decide +kernel
theorem dX12_periodLine_32 : decode cX12_periodLine 32 = .ok (.iconst 0, 1) := by decide +kernel
theorem dX12_periodLine_33 : decode cX12_periodLine 33 = .ok (.ireturn, 1) := by decide +kernel
theorem dX12_periodLine_34 : decode cX12_periodLine 34 = .ok (.aload_n 0, 1) := by decide +kernel
theorem dX12_periodLine_35 : decode cX12_periodLine 35 = .ok (.getfield 23, 3) := by decide +kernel
theorem dX12_periodLine_38 : decode cX12_periodLine 38 = .ok (.iload_n 1, 1) := by decide +kernel
theorem dX12_periodLine_39 : decode cX12_periodLine 39 = .ok (.aload_n 0, 1) := by decide +kernel
theorem dX12_periodLine_40 : decode cX12_periodLine 40 = .ok (.getfield 169, 3) := by decide +kernel
theorem dX12_periodLine_43 : decode cX12_periodLine 43 = .ok (.iastore, 1) := by decide +kernel
theorem dX12_periodLine_44 : decode cX12_periodLine 44 = .ok (.aload_n 0, 1) := by decide +kernel
theorem dX12_periodLine_45 : decode cX12_periodLine 45 = .ok (.invokevirtual 172, 3) := by decide +kernel
theorem dX12_periodLine_48 : decode cX12_periodLine 48 = .ok (.aload_n 0, 1) := by decide +kernel
theorem dX12_periodLine_49 : decode cX12_periodLine 49 = .ok (.iconst 0, 1) := by decide +kernel
theorem dX12_periodLine_50 : decode cX12_periodLine 50 = .ok (.sipush 999, 3) := by decide +kernel
theorem dX12_periodLine_53 : decode cX12_periodLine 53 = .ok (.invokevirtual 183, 3) := by decide +kernel
theorem dX12_periodLine_56 : decode cX12_periodLine 56 = .ok (.ifCond .ne 5, 3) := by decide +kernel
theorem dX12_periodLine_59 : decode cX12_periodLine 59 = .ok (.iconst 0, 1) := by decide +kernel
theorem dX12_periodLine_60 : decode cX12_periodLine 60 = .ok (.ireturn, 1) := by decide +kernel
theorem dX12_periodLine_61 : decode cX12_periodLine 61 = .ok (.aload_n 0, 1) := by decide +kernel
theorem dX12_periodLine_62 : decode cX12_periodLine 62 = .ok (.getfield 23, 3) := by decide +kernel
theorem dX12_periodLine_65 : decode cX12_periodLine 65 = .ok (.iload_n 1, 1) := by decide +kernel
theorem dX12_periodLine_66 : decode cX12_periodLine 66 = .ok (.iconst 1, 1) := by decide +kernel
theorem dX12_periodLine_67 : decode cX12_periodLine 67 = .ok (.iadd, 1) := by decide +kernel
theorem dX12_periodLine_68 : decode cX12_periodLine 68 = .ok (.aload_n 0, 1) := by decide +kernel
theorem dX12_periodLine_69 : decode cX12_periodLine 69 = .ok (.getfield 169, 3) := by decide +kernel
theorem dX12_periodLine_72 : decode cX12_periodLine 72 = .ok (.iastore, 1) := by decide +kernel
theorem dX12_periodLine_73 : decode cX12_periodLine 73 = .ok (.aload_n 0, 1) := by decide +kernel
theorem dX12_periodLine_74 : decode cX12_periodLine 74 = .ok (.getfield 99, 3) := by decide +kernel
theorem dX12_periodLine_77 : decode cX12_periodLine 77 = .ok (.iconst 3, 1) := by decide +kernel
theorem dX12_periodLine_78 : decode cX12_periodLine 78 = .ok (.if_icmp .eq 9, 3) := by decide +kernel
theorem dX12_periodLine_81 : decode cX12_periodLine 81 = .ok (.aload_n 0, 1) := by decide +kernel
theorem dX12_periodLine_82 : decode cX12_periodLine 82 = .ok (.iconst 1, 1) := by decide +kernel
theorem dX12_periodLine_83 : decode cX12_periodLine 83 = .ok (.invokevirtual 162, 3) := by decide +kernel
theorem dX12_periodLine_86 : decode cX12_periodLine 86 = .ok (.ireturn, 1) := by decide +kernel
theorem dX12_periodLine_87 : decode cX12_periodLine 87 = .ok (.aload_n 0, 1) := by decide +kernel
theorem dX12_periodLine_88 : decode cX12_periodLine 88 = .ok (.getfield 110, 3) := by decide +kernel
theorem dX12_periodLine_91 : decode cX12_periodLine 91 = .ok (.aload_n 0, 1) := by decide +kernel
theorem dX12_periodLine_92 : decode cX12_periodLine 92 = .ok (.getfield 23, 3) := by decide +kernel
theorem dX12_periodLine_95 : decode cX12_periodLine 95 = .ok (.iload_n 1, 1) := by decide +kernel
theorem dX12_periodLine_96 : decode cX12_periodLine 96 = .ok (.iconst 1, 1) := by decide +kernel
theorem dX12_periodLine_97 : decode cX12_periodLine 97 = .ok (.iadd, 1) := by decide +kernel
theorem dX12_periodLine_98 : decode cX12_periodLine 98 = .ok (.iaload, 1) := by decide +kernel
theorem dX12_periodLine_99 : decode cX12_periodLine 99 = .ok (.sipush 999, 3) := by decide +kernel
theorem dX12_periodLine_102 : decode cX12_periodLine 102 = .ok (.invokestatic 165, 3) := by decide +kernel
theorem dX12_periodLine_105 : decode cX12_periodLine 105 = .ok (.ifCond .ne 9, 3) := by decide +kernel
theorem dX12_periodLine_108 : decode cX12_periodLine 108 = .ok (.aload_n 0, 1) := by decide +kernel
theorem dX12_periodLine_109 : decode cX12_periodLine 109 = .ok (.iconst 2, 1) := by decide +kernel
theorem dX12_periodLine_110 : decode cX12_periodLine 110 = .ok (.invokevirtual 162, 3) := by decide +kernel
theorem dX12_periodLine_113 : decode cX12_periodLine 113 = .ok (.ireturn, 1) := by decide +kernel
theorem dX12_periodLine_114 : decode cX12_periodLine 114 = .ok (.bipush 48, 2) := by decide +kernel
theorem dX12_periodLine_116 : decode cX12_periodLine 116 = .ok (.istore_n 2, 1) := by decide +kernel
theorem dX12_periodLine_117 : decode cX12_periodLine 117 = .ok (.iload_n 2, 1) := by decide +kernel
theorem dX12_periodLine_118 : decode cX12_periodLine 118 = .ok (.iload_n 1, 1) := by decide +kernel
theorem dX12_periodLine_119 : decode cX12_periodLine 119 = .ok (.if_icmp .ge 64, 3) := by decide +kernel
theorem dX12_periodLine_122 : decode cX12_periodLine 122 = .ok (.aload_n 0, 1) := by decide +kernel
theorem dX12_periodLine_123 : decode cX12_periodLine 123 = .ok (.getfield 23, 3) := by decide +kernel
theorem dX12_periodLine_126 : decode cX12_periodLine 126 = .ok (.iload_n 2, 1) := by decide +kernel
theorem dX12_periodLine_127 : decode cX12_periodLine 127 = .ok (.iaload, 1) := by decide +kernel
theorem dX12_periodLine_128 : decode cX12_periodLine 128 = .ok (.aload_n 0, 1) := by decide +kernel
theorem dX12_periodLine_129 : decode cX12_periodLine 129 = .ok (.getfield 23, 3) := by decide +kernel
theorem dX12_periodLine_132 : decode cX12_periodLine 132 = .ok (.iload_n 1, 1) := by decide +kernel
theorem dX12_periodLine_133 : decode cX12_periodLine 133 = .ok (.iaload, 1) := by decide +kernel
theorem dX12_periodLine_134 : decode cX12_periodLine 134 = .ok (.if_icmp .ne 43, 3) := by decide +kernel
theorem dX12_periodLine_137 : decode cX12_periodLine 137 = .ok (.aload_n 0, 1) := by decide +kernel
theorem dX12_periodLine_138 : decode cX12_periodLine 138 = .ok (.getfield 23, 3) := by decide +kernel
theorem dX12_periodLine_141 : decode cX12_periodLine 141 = .ok (.iload_n 2, 1) := by decide +kernel
theorem dX12_periodLine_142 : decode cX12_periodLine 142 = .ok (.iconst 1, 1) := by decide +kernel
theorem dX12_periodLine_143 : decode cX12_periodLine 143 = .ok (.iadd, 1) := by decide +kernel
theorem dX12_periodLine_144 : decode cX12_periodLine 144 = .ok (.iaload, 1) := by decide +kernel
theorem dX12_periodLine_145 : decode cX12_periodLine 145 = .ok (.aload_n 0, 1) := by decide +kernel
theorem dX12_periodLine_146 : decode cX12_periodLine 146 = .ok (.getfield 110, 3) := by decide +kernel
theorem dX12_periodLine_149 : decode cX12_periodLine 149 = .ok (.if_icmp .gt 28, 3) := by decide +kernel
theorem dX12_periodLine_152 : decode cX12_periodLine 152 = .ok (.aload_n 0, 1) := by decide +kernel
theorem dX12_periodLine_153 : decode cX12_periodLine 153 = .ok (.getfield 23, 3) := by decide +kernel
theorem dX12_periodLine_156 : decode cX12_periodLine 156 = .ok (.iload_n 1, 1) := by decide +kernel
theorem dX12_periodLine_157 : decode cX12_periodLine 157 = .ok (.iconst 1, 1) := by decide +kernel
theorem dX12_periodLine_158 : decode cX12_periodLine 158 = .ok (.iadd, 1) := by decide +kernel
theorem dX12_periodLine_159 : decode cX12_periodLine 159 = .ok (.iaload, 1) := by decide +kernel
theorem dX12_periodLine_160 : decode cX12_periodLine 160 = .ok (.aload_n 0, 1) := by decide +kernel
theorem dX12_periodLine_161 : decode cX12_periodLine 161 = .ok (.getfield 23, 3) := by decide +kernel
theorem dX12_periodLine_164 : decode cX12_periodLine 164 = .ok (.iload_n 2, 1) := by decide +kernel
theorem dX12_periodLine_165 : decode cX12_periodLine 165 = .ok (.iconst 2, 1) := by decide +kernel
theorem dX12_periodLine_166 : decode cX12_periodLine 166 = .ok (.iadd, 1) := by decide +kernel
theorem dX12_periodLine_167 : decode cX12_periodLine 167 = .ok (.iaload, 1) := by decide +kernel
theorem dX12_periodLine_168 : decode cX12_periodLine 168 = .ok (.if_icmp .gt 9, 3) := by decide +kernel
theorem dX12_periodLine_171 : decode cX12_periodLine 171 = .ok (.aload_n 0, 1) := by decide +kernel
theorem dX12_periodLine_172 : decode cX12_periodLine 172 = .ok (.iconst 3, 1) := by decide +kernel
theorem dX12_periodLine_173 : decode cX12_periodLine 173 = .ok (.invokevirtual 162, 3) := by decide +kernel
theorem dX12_periodLine_176 : decode cX12_periodLine 176 = .ok (.ireturn, 1) := by decide +kernel
theorem dX12_periodLine_177 : decode cX12_periodLine 177 = .ok (.iinc 2 4, 3) := by decide +kernel
theorem dX12_periodLine_180 : decode cX12_periodLine 180 = .ok (.goto (-63), 3) := by decide +kernel
theorem dX12_periodLine_183 : decode cX12_periodLine 183 = .ok (.aload_n 0, 1) := by decide +kernel
theorem dX12_periodLine_184 : decode cX12_periodLine 184 = .ok (.getfield 23, 3) := by decide +kernel
theorem dX12_periodLine_187 : decode cX12_periodLine 187 = .ok (.iload_n 1, 1) := by decide +kernel
theorem dX12_periodLine_188 : decode cX12_periodLine 188 = .ok (.iconst 2, 1) := by decide +kernel
theorem dX12_periodLine_189 : decode cX12_periodLine 189 = .ok (.iadd, 1) := by decide +kernel
theorem dX12_periodLine_190 : decode cX12_periodLine 190 = .ok (.aload_n 0, 1) := by decide +kernel
theorem dX12_periodLine_191 : decode cX12_periodLine 191 = .ok (.getfield 110, 3) := by decide +kernel
theorem dX12_periodLine_194 : decode cX12_periodLine 194 = .ok (.iastore, 1) := by decide +kernel
theorem dX12_periodLine_195 : decode cX12_periodLine 195 = .ok (.aload_n 0, 1) := by decide +kernel
theorem dX12_periodLine_196 : decode cX12_periodLine 196 = .ok (.invokevirtual 172, 3) := by decide +kernel
theorem dX12_periodLine_199 : decode cX12_periodLine 199 = .ok (.aload_n 0, 1) := by decide +kernel
theorem dX12_periodLine_200 : decode cX12_periodLine 200 = .ok (.ldc 190, 2) := by decide +kernel
theorem dX12_periodLine_202 : decode cX12_periodLine 202 = .ok (.ldc 119, 2) := by decide +kernel
theorem dX12_periodLine_204 : decode cX12_periodLine 204 = .ok (.invokevirtual 175, 3) := by decide +kernel
theorem dX12_periodLine_207 : decode cX12_periodLine 207 = .ok (.ifCond .ne 5, 3) := by decide +kernel
theorem dX12_periodLine_210 : decode cX12_periodLine 210 = .ok (.iconst 0, 1) := by decide +kernel
theorem dX12_periodLine_211 : decode cX12_periodLine 211 = .ok (.ireturn, 1) := by decide +kernel
theorem dX12_periodLine_212 : decode cX12_periodLine 212 = .ok (.aload_n 0, 1) := by decide +kernel
theorem dX12_periodLine_213 : decode cX12_periodLine 213 = .ok (.getfield 23, 3) := by decide +kernel
theorem dX12_periodLine_216 : decode cX12_periodLine 216 = .ok (.iload_n 1, 1) := by decide +kernel
theorem dX12_periodLine_217 : decode cX12_periodLine 217 = .ok (.iconst 3, 1) := by decide +kernel
theorem dX12_periodLine_218 : decode cX12_periodLine 218 = .ok (.iadd, 1) := by decide +kernel
theorem dX12_periodLine_219 : decode cX12_periodLine 219 = .ok (.aload_n 0, 1) := by decide +kernel
theorem dX12_periodLine_220 : decode cX12_periodLine 220 = .ok (.getfield 169, 3) := by decide +kernel
theorem dX12_periodLine_223 : decode cX12_periodLine 223 = .ok (.iastore, 1) := by decide +kernel
theorem dX12_periodLine_224 : decode cX12_periodLine 224 = .ok (.aload_n 0, 1) := by decide +kernel
theorem dX12_periodLine_225 : decode cX12_periodLine 225 = .ok (.dup, 1) := by decide +kernel
theorem dX12_periodLine_226 : decode cX12_periodLine 226 = .ok (.getfield 123, 3) := by decide +kernel
theorem dX12_periodLine_229 : decode cX12_periodLine 229 = .ok (.iconst 1, 1) := by decide +kernel
theorem dX12_periodLine_230 : decode cX12_periodLine 230 = .ok (.iadd, 1) := by decide +kernel
theorem dX12_periodLine_231 : decode cX12_periodLine 231 = .ok (.putfield 123, 3) := by decide +kernel
theorem dX12_periodLine_234 : decode cX12_periodLine 234 = .ok (.iconst 1, 1) := by decide +kernel
theorem dX12_periodLine_235 : decode cX12_periodLine 235 = .ok (.ireturn, 1) := by decide +kernel
theorem dX12_wordLine_0 : decode cX12_wordLine 0 = .ok (.aload_n 0, 1) := by decide +kernel
theorem dX12_wordLine_1 : decode cX12_wordLine 1 = .ok (.getfield 110, 3) := by decide +kernel
theorem dX12_wordLine_4 : decode cX12_wordLine 4 = .ok (.istore_n 1, 1) := by decide +kernel
theorem dX12_wordLine_5 : decode cX12_wordLine 5 = .ok (.aload_n 0, 1) := by decide +kernel
theorem dX12_wordLine_6 : decode cX12_wordLine 6 = .ok (.getfield 129, 3) := by decide +kernel
theorem dX12_wordLine_9 : decode cX12_wordLine 9 = .ok (.iload_n 1, 1) := by decide +kernel
theorem dX12_wordLine_10 : decode cX12_wordLine 10 = .ok (.ishr, 1) := by decide +kernel
theorem dX12_wordLine_11 : decode cX12_wordLine 11 = .ok (.iconst 1, 1) := by decide +kernel
theorem dX12_wordLine_12 : decode cX12_wordLine 12 = .ok (.iand, 1) := by decide +kernel
theorem dX12_wordLine_13 : decode cX12_wordLine 13 = .ok (.iconst 1, 1) := by decide +kernel
theorem dX12_wordLine_14 : decode cX12_wordLine 14 = .ok (.if_icmp .ne 9, 3) := by decide +kernel
theorem dX12_wordLine_17 : decode cX12_wordLine 17 = .ok (.aload_n 0, 1) := by decide +kernel
theorem dX12_wordLine_18 : decode cX12_wordLine 18 = .ok (.iconst 3, 1) := by decide +kernel
theorem dX12_wordLine_19 : decode cX12_wordLine 19 = .ok (.invokevirtual 162, 3) := by decide +kernel
theorem dX12_wordLine_22 : decode cX12_wordLine 22 = .ok (.ireturn, 1) := by decide +kernel
theorem dX12_wordLine_23 : decode cX12_wordLine 23 = .ok (.aload_n 0, 1) := by decide +kernel
theorem dX12_wordLine_24 : decode cX12_wordLine 24 = .ok (.dup, 1) := by decide +kernel
theorem dX12_wordLine_25 : decode cX12_wordLine 25 = .ok (.getfield 129, 3) := by decide +kernel
theorem dX12_wordLine_28 : decode cX12_wordLine 28 = .ok (.iconst 1, 1) := by decide +kernel
theorem dX12_wordLine_29 : decode cX12_wordLine 29 = .ok (.iload_n 1, 1) := by decide +kernel
theorem dX12_wordLine_30 : decode cX12_wordLine 30 = .ok (.ishl, 1) := by decide +kernel
theorem dX12_wordLine_31 : decode cX12_wordLine 31 = .ok (.ior, 1) := by decide +kernel
theorem dX12_wordLine_32 : decode cX12_wordLine 32 = .ok (.putfield 129, 3) := by decide +kernel
theorem dX12_wordLine_35 : decode cX12_wordLine 35 = .ok (.aload_n 0, 1) := by decide +kernel
theorem dX12_wordLine_36 : decode cX12_wordLine 36 = .ok (.invokevirtual 172, 3) := by decide +kernel
theorem dX12_wordLine_39 : decode cX12_wordLine 39 = .ok (.iload_n 1, 1) := by decide +kernel
theorem dX12_wordLine_40 : decode cX12_wordLine 40 = .ok (.iconst 3, 1) := by decide +kernel
theorem dX12_wordLine_41 : decode cX12_wordLine 41 = .ok (.if_icmp .ne 16, 3) := by decide +kernel
theorem dX12_wordLine_44 : decode cX12_wordLine 44 = .ok (.aload_n 0, 1) := by decide +kernel
theorem dX12_wordLine_45 : decode cX12_wordLine 45 = .ok (.iconst 1, 1) := by decide +kernel
theorem dX12_wordLine_46 : decode cX12_wordLine 46 = .ok (.bipush 100, 2) := by decide +kernel
theorem dX12_wordLine_48 : decode cX12_wordLine 48 = .ok (.invokevirtual 183, 3) := by decide +kernel
theorem dX12_wordLine_51 : decode cX12_wordLine 51 = .ok (.ifCond .eq 50, 3) := by decide +kernel
theorem dX12_wordLine_54 : decode cX12_wordLine 54 = .ok (.goto 49, 3) := by decide +kernel
theorem dX12_wordLine_57 : decode cX12_wordLine 57 = .ok (.iload_n 1, 1) := by decide +kernel
theorem dX12_wordLine_58 : decode cX12_wordLine 58 = .ok (.iconst 4, 1) := by decide +kernel
theorem dX12_wordLine_59 : decode cX12_wordLine 59 = .ok (.if_icmp .ne 15, 3) := by decide +kernel
theorem dX12_wordLine_62 : decode cX12_wordLine 62 = .ok (.aload_n 0, 1) := by decide +kernel
theorem dX12_wordLine_63 : decode cX12_wordLine 63 = .ok (.iconst 0, 1) := by decide +kernel
theorem dX12_wordLine_64 : decode cX12_wordLine 64 = .ok (.iconst 2, 1) := by decide +kernel
theorem dX12_wordLine_65 : decode cX12_wordLine 65 = .ok (.invokevirtual 183, 3) := by decide +kernel
theorem dX12_wordLine_68 : decode cX12_wordLine 68 = .ok (.ifCond .eq 33, 3) := by decide +kernel
theorem dX12_wordLine_71 : decode cX12_wordLine 71 = .ok (.goto 32, 3) := by decide +kernel
theorem dX12_wordLine_74 : decode cX12_wordLine 74 = .ok (.iload_n 1, 1) := by decide +kernel
theorem dX12_wordLine_75 : decode cX12_wordLine 75 = .ok (.iconst 5, 1) := by decide +kernel
theorem dX12_wordLine_76 : decode cX12_wordLine 76 = .ok (.if_icmp .ne 15, 3) := by decide +kernel
theorem dX12_wordLine_79 : decode cX12_wordLine 79 = .ok (.aload_n 0, 1) := by decide +kernel
theorem dX12_wordLine_80 : decode cX12_wordLine 80 = .ok (.iconst 0, 1) := by decide +kernel
theorem dX12_wordLine_81 : decode cX12_wordLine 81 = .ok (.iconst 1, 1) := by decide +kernel
theorem dX12_wordLine_82 : decode cX12_wordLine 82 = .ok (.invokevirtual 183, 3) := by decide +kernel
theorem dX12_wordLine_85 : decode cX12_wordLine 85 = .ok (.ifCond .eq 16, 3) := by decide +kernel
theorem dX12_wordLine_88 : decode cX12_wordLine 88 = .ok (.goto 15, 3) := by decide +kernel
theorem dX12_wordLine_91 : decode cX12_wordLine 91 = .ok (.aload_n 0, 1) := by decide +kernel
theorem dX12_wordLine_92 : decode cX12_wordLine 92 = .ok (.iconst 0, 1) := by decide +kernel
theorem dX12_wordLine_93 : decode cX12_wordLine 93 = .ok (.ldc 119, 2) := by decide +kernel
theorem dX12_wordLine_95 : decode cX12_wordLine 95 = .ok (.invokevirtual 183, 3) := by decide +kernel
theorem dX12_wordLine_98 : decode cX12_wordLine 98 = .ok (.ifCond .ne 5, 3) := by decide +kernel
theorem dX12_wordLine_101 : decode cX12_wordLine 101 = .ok (.iconst 0, 1) := by decide +kernel
theorem dX12_wordLine_102 : decode cX12_wordLine 102 = .ok (.ireturn, 1) := by decide +kernel
theorem dX12_wordLine_103 : decode cX12_wordLine 103 = .ok (.aload_n 0, 1) := by decide +kernel
theorem dX12_wordLine_104 : decode cX12_wordLine 104 = .ok (.getfield 29, 3) := by decide +kernel
theorem dX12_wordLine_107 : decode cX12_wordLine 107 = .ok (.iload_n 1, 1) := by decide +kernel
theorem dX12_wordLine_108 : decode cX12_wordLine 108 = .ok (.iconst 3, 1) := by decide +kernel
theorem dX12_wordLine_109 : decode cX12_wordLine 109 = .ok (.if_icmp .ne 7, 3) := by decide +kernel
theorem dX12_wordLine_112 : decode cX12_wordLine 112 = .ok (.iconst 4, 1) := by decide +kernel
theorem dX12_wordLine_113 : decode cX12_wordLine 113 = .ok (.goto 24, 3) := by decide +kernel
theorem dX12_wordLine_116 : decode cX12_wordLine 116 = .ok (.iload_n 1, 1) := by decide +kernel
theorem dX12_wordLine_117 : decode cX12_wordLine 117 = .ok (.iconst 4, 1) := by decide +kernel
theorem dX12_wordLine_118 : decode cX12_wordLine 118 = .ok (.if_icmp .ne 7, 3) := by decide +kernel
theorem dX12_wordLine_121 : decode cX12_wordLine 121 = .ok (.iconst 5, 1) := by decide +kernel
theorem dX12_wordLine_122 : decode cX12_wordLine 122 = .ok (.goto 15, 3) := by decide +kernel
theorem dX12_wordLine_125 : decode cX12_wordLine 125 = .ok (.iload_n 1, 1) := by decide +kernel
theorem dX12_wordLine_126 : decode cX12_wordLine 126 = .ok (.iconst 5, 1) := by decide +kernel
theorem dX12_wordLine_127 : decode cX12_wordLine 127 = .ok (.if_icmp .ne 8, 3) := by decide +kernel
theorem dX12_wordLine_130 : decode cX12_wordLine 130 = .ok (.bipush 7, 2) := by decide +kernel
theorem dX12_wordLine_132 : decode cX12_wordLine 132 = .ok (.goto 5, 3) := by decide +kernel
theorem dX12_wordLine_135 : decode cX12_wordLine 135 = .ok (.bipush 6, 2) := by decide +kernel
theorem dX12_wordLine_137 : decode cX12_wordLine 137 = .ok (.aload_n 0, 1) := by decide +kernel
theorem dX12_wordLine_138 : decode cX12_wordLine 138 = .ok (.getfield 169, 3) := by decide +kernel
theorem dX12_wordLine_141 : decode cX12_wordLine 141 = .ok (.iastore, 1) := by decide +kernel
theorem dX12_wordLine_142 : decode cX12_wordLine 142 = .ok (.iconst 1, 1) := by decide +kernel
theorem dX12_wordLine_143 : decode cX12_wordLine 143 = .ok (.ireturn, 1) := by decide +kernel
theorem dX12_lineRead_0 : decode cX12_lineRead 0 = .ok (.aload_n 0, 1) := by decide +kernel
theorem dX12_lineRead_1 : decode cX12_lineRead 1 = .ok (.getfield 99, 3) := by decide +kernel
theorem dX12_lineRead_4 : decode cX12_lineRead 4 = .ok (.iconst 1, 1) := by decide +kernel
theorem dX12_lineRead_5 : decode cX12_lineRead 5 = .ok (.if_icmp .eq 9, 3) := by decide +kernel
theorem dX12_lineRead_8 : decode cX12_lineRead 8 = .ok (.aload_n 0, 1) := by decide +kernel
theorem dX12_lineRead_9 : decode cX12_lineRead 9 = .ok (.iconst 1, 1) := by decide +kernel
theorem dX12_lineRead_10 : decode cX12_lineRead 10 = .ok (.invokevirtual 162, 3) := by decide +kernel
theorem dX12_lineRead_13 : decode cX12_lineRead 13 = .ok (.ireturn, 1) := by decide +kernel
theorem dX12_lineRead_14 : decode cX12_lineRead 14 = .ok (.aload_n 0, 1) := by decide +kernel
theorem dX12_lineRead_15 : decode cX12_lineRead 15 = .ok (.getfield 110, 3) := by decide +kernel
theorem dX12_lineRead_18 : decode cX12_lineRead 18 = .ok (.ifCond .ne 10, 3) := by decide +kernel
theorem dX12_lineRead_21 : decode cX12_lineRead 21 = .ok (.aload_n 0, 1) := by decide +kernel
theorem dX12_lineRead_22 : decode cX12_lineRead 22 = .ok (.invokevirtual 191, 3) := by decide +kernel
theorem dX12_lineRead_25 : decode cX12_lineRead 25 = .ok (.goto 37, 3) := by decide +kernel
theorem dX12_lineRead_28 : decode cX12_lineRead 28 = .ok (.aload_n 0, 1) := by decide +kernel
theorem dX12_lineRead_29 : decode cX12_lineRead 29 = .ok (.getfield 110, 3) := by decide +kernel
theorem dX12_lineRead_32 : decode cX12_lineRead 32 = .ok (.iconst 1, 1) := by decide +kernel
theorem dX12_lineRead_33 : decode cX12_lineRead 33 = .ok (.if_icmp .ne 10, 3) := by decide +kernel
theorem dX12_lineRead_36 : decode cX12_lineRead 36 = .ok (.aload_n 0, 1) := by decide +kernel
theorem dX12_lineRead_37 : decode cX12_lineRead 37 = .ok (.invokevirtual 194, 3) := by decide +kernel
theorem dX12_lineRead_40 : decode cX12_lineRead 40 = .ok (.goto 22, 3) := by decide +kernel
theorem dX12_lineRead_43 : decode cX12_lineRead 43 = .ok (.aload_n 0, 1) := by decide +kernel
theorem dX12_lineRead_44 : decode cX12_lineRead 44 = .ok (.getfield 110, 3) := by decide +kernel
theorem dX12_lineRead_47 : decode cX12_lineRead 47 = .ok (.iconst 2, 1) := by decide +kernel
theorem dX12_lineRead_48 : decode cX12_lineRead 48 = .ok (.if_icmp .ne 10, 3) := by decide +kernel
theorem dX12_lineRead_51 : decode cX12_lineRead 51 = .ok (.aload_n 0, 1) := by decide +kernel
theorem dX12_lineRead_52 : decode cX12_lineRead 52 = .ok (.invokevirtual 197, 3) := by decide +kernel
theorem dX12_lineRead_55 : decode cX12_lineRead 55 = .ok (.goto 7, 3) := by decide +kernel
theorem dX12_lineRead_58 : decode cX12_lineRead 58 = .ok (.aload_n 0, 1) := by decide +kernel
theorem dX12_lineRead_59 : decode cX12_lineRead 59 = .ok (.invokevirtual 200, 3) := by decide +kernel
theorem dX12_lineRead_62 : decode cX12_lineRead 62 = .ok (.istore_n 1, 1) := by decide +kernel
theorem dX12_lineRead_63 : decode cX12_lineRead 63 = .ok (.iload_n 1, 1) := by decide +kernel
theorem dX12_lineRead_64 : decode cX12_lineRead 64 = .ok (.ifCond .ne 5, 3) := by decide +kernel
theorem dX12_lineRead_67 : decode cX12_lineRead 67 = .ok (.iconst 0, 1) := by decide +kernel
theorem dX12_lineRead_68 : decode cX12_lineRead 68 = .ok (.ireturn, 1) := by decide +kernel
theorem dX12_lineRead_69 : decode cX12_lineRead 69 = .ok (.aload_n 0, 1) := by decide +kernel
theorem dX12_lineRead_70 : decode cX12_lineRead 70 = .ok (.getfield 99, 3) := by decide +kernel
theorem dX12_lineRead_73 : decode cX12_lineRead 73 = .ok (.iconst 4, 1) := by decide +kernel
theorem dX12_lineRead_74 : decode cX12_lineRead 74 = .ok (.if_icmp .eq 9, 3) := by decide +kernel
theorem dX12_lineRead_77 : decode cX12_lineRead 77 = .ok (.aload_n 0, 1) := by decide +kernel
theorem dX12_lineRead_78 : decode cX12_lineRead 78 = .ok (.iconst 1, 1) := by decide +kernel
theorem dX12_lineRead_79 : decode cX12_lineRead 79 = .ok (.invokevirtual 162, 3) := by decide +kernel
theorem dX12_lineRead_82 : decode cX12_lineRead 82 = .ok (.ireturn, 1) := by decide +kernel
theorem dX12_lineRead_83 : decode cX12_lineRead 83 = .ok (.aload_n 0, 1) := by decide +kernel
theorem dX12_lineRead_84 : decode cX12_lineRead 84 = .ok (.invokevirtual 172, 3) := by decide +kernel
theorem dX12_lineRead_87 : decode cX12_lineRead 87 = .ok (.iconst 1, 1) := by decide +kernel
theorem dX12_lineRead_88 : decode cX12_lineRead 88 = .ok (.ireturn, 1) := by decide +kernel
theorem dX12_text_0 : decode cX12_text 0 = .ok (.aload_n 0, 1) := by decide +kernel
theorem dX12_text_1 : decode cX12_text 1 = .ok (.iconst 0, 1) := by decide +kernel
theorem dX12_text_2 : decode cX12_text 2 = .ok (.putfield 81, 3) := by decide +kernel
theorem dX12_text_5 : decode cX12_text 5 = .ok (.iload_n 1, 1) := by decide +kernel
theorem dX12_text_6 : decode cX12_text 6 = .ok (.ifCond .lt 11, 3) := by decide +kernel
theorem dX12_text_9 : decode cX12_text 9 = .ok (.iload_n 1, 1) := by decide +kernel
theorem dX12_text_10 : decode cX12_text 10 = .ok (.aload_n 0, 1) := by decide +kernel
theorem dX12_text_11 : decode cX12_text 11 = .ok (.getfield 84, 3) := by decide +kernel
theorem dX12_text_14 : decode cX12_text 14 = .ok (.if_icmp .le 6, 3) := by decide +kernel
theorem dX12_text_17 : decode cX12_text 17 = .ok (.bipush (-2), 2) := by decide +kernel
theorem dX12_text_19 : decode cX12_text 19 = .ok (.ireturn, 1) := by decide +kernel
theorem dX12_text_20 : decode cX12_text 20 = .ok (.aload_n 0, 1) := by decide +kernel
theorem dX12_text_21 : decode cX12_text 21 = .ok (.iload_n 1, 1) := by decide +kernel
theorem dX12_text_22 : decode cX12_text 22 = .ok (.putfield 93, 3) := by decide +kernel
theorem dX12_text_25 : decode cX12_text 25 = .ok (.aload_n 0, 1) := by decide +kernel
theorem dX12_text_26 : decode cX12_text 26 = .ok (.iconst 0, 1) := by decide +kernel
theorem dX12_text_27 : decode cX12_text 27 = .ok (.putfield 84, 3) := by decide +kernel
theorem dX12_text_30 : decode cX12_text 30 = .ok (.aload_n 0, 1) := by decide +kernel
theorem dX12_text_31 : decode cX12_text 31 = .ok (.iconst 0, 1) := by decide +kernel
theorem dX12_text_32 : decode cX12_text 32 = .ok (.putfield 87, 3) := by decide +kernel
theorem dX12_text_35 : decode cX12_text 35 = .ok (.aload_n 0, 1) := by decide +kernel
theorem dX12_text_36 : decode cX12_text 36 = .ok (.iconst (-1), 1) := by decide +kernel
theorem dX12_text_37 : decode cX12_text 37 = .ok (.putfield 16, 3) := by decide +kernel
theorem dX12_text_40 : decode cX12_text 40 = .ok (.aload_n 0, 1) := by decide +kernel
theorem dX12_text_41 : decode cX12_text 41 = .ok (.iconst 0, 1) := by decide +kernel
theorem dX12_text_42 : decode cX12_text 42 = .ok (.putfield 96, 3) := by decide +kernel
theorem dX12_text_45 : decode cX12_text 45 = .ok (.aload_n 0, 1) := by decide +kernel
theorem dX12_text_46 : decode cX12_text 46 = .ok (.invokevirtual 75, 3) := by decide +kernel
theorem dX12_text_49 : decode cX12_text 49 = .ok (.aload_n 0, 1) := by decide +kernel
theorem dX12_text_50 : decode cX12_text 50 = .ok (.invokevirtual 172, 3) := by decide +kernel
theorem dX12_text_53 : decode cX12_text 53 = .ok (.iconst 0, 1) := by decide +kernel
theorem dX12_text_54 : decode cX12_text 54 = .ok (.istore_n 2, 1) := by decide +kernel
theorem dX12_text_55 : decode cX12_text 55 = .ok (.aload_n 0, 1) := by decide +kernel
theorem dX12_text_56 : decode cX12_text 56 = .ok (.getfield 99, 3) := by decide +kernel
theorem dX12_text_59 : decode cX12_text 59 = .ok (.ifCond .eq 18, 3) := by decide +kernel
theorem dX12_text_62 : decode cX12_text 62 = .ok (.aload_n 0, 1) := by decide +kernel
theorem dX12_text_63 : decode cX12_text 63 = .ok (.invokevirtual 203, 3) := by decide +kernel
theorem dX12_text_66 : decode cX12_text 66 = .ok (.ifCond .ne 5, 3) := by decide +kernel
theorem dX12_text_69 : decode cX12_text 69 = .ok (.iconst (-1), 1) := by decide +kernel
theorem dX12_text_70 : decode cX12_text 70 = .ok (.ireturn, 1) := by decide +kernel
theorem dX12_text_71 : decode cX12_text 71 = .ok (.iinc 2 1, 3) := by decide +kernel
theorem dX12_text_74 : decode cX12_text 74 = .ok (.goto (-19), 3) := by decide +kernel
theorem dX12_text_77 : decode cX12_text 77 = .ok (.aload_n 0, 1) := by decide +kernel
theorem dX12_text_78 : decode cX12_text 78 = .ok (.invokevirtual 78, 3) := by decide +kernel
theorem dX12_text_81 : decode cX12_text 81 = .ok (.iload_n 2, 1) := by decide +kernel
theorem dX12_text_82 : decode cX12_text 82 = .ok (.ireturn, 1) := by decide +kernel
theorem dX12_fault_0 : decode cX12_fault 0 = .ok (.aload_n 0, 1) := by decide +kernel
theorem dX12_fault_1 : decode cX12_fault 1 = .ok (.iconst 0, 1) := by decide +kernel
theorem dX12_fault_2 : decode cX12_fault 2 = .ok (.putfield 81, 3) := by decide +kernel
theorem dX12_fault_5 : decode cX12_fault 5 = .ok (.iload_n 1, 1) := by decide +kernel
theorem dX12_fault_6 : decode cX12_fault 6 = .ok (.ifCond .ne 10, 3) := by decide +kernel
theorem dX12_fault_9 : decode cX12_fault 9 = .ok (.aload_n 0, 1) := by decide +kernel
theorem dX12_fault_10 : decode cX12_fault 10 = .ok (.getfield 87, 3) := by decide +kernel
theorem dX12_fault_13 : decode cX12_fault 13 = .ok (.goto 16, 3) := by decide +kernel
theorem dX12_fault_16 : decode cX12_fault 16 = .ok (.iload_n 1, 1) := by decide +kernel
theorem dX12_fault_17 : decode cX12_fault 17 = .ok (.iconst 1, 1) := by decide +kernel
theorem dX12_fault_18 : decode cX12_fault 18 = .ok (.if_icmp .ne 10, 3) := by decide +kernel
theorem dX12_fault_21 : decode cX12_fault 21 = .ok (.aload_n 0, 1) := by decide +kernel
theorem dX12_fault_22 : decode cX12_fault 22 = .ok (.getfield 16, 3) := by decide +kernel
theorem dX12_fault_25 : decode cX12_fault 25 = .ok (.goto 4, 3) := by decide +kernel
theorem dX12_fault_28 : decode cX12_fault 28 = .ok (.iconst (-1), 1) := by decide +kernel
theorem dX12_fault_29 : decode cX12_fault 29 = .ok (.ireturn, 1) := by decide +kernel
theorem dX12_named_0 : decode cX12_named 0 = .ok (.aload_n 0, 1) := by decide +kernel
theorem dX12_named_1 : decode cX12_named 1 = .ok (.iconst 0, 1) := by decide +kernel
theorem dX12_named_2 : decode cX12_named 2 = .ok (.putfield 81, 3) := by decide +kernel
theorem dX12_named_5 : decode cX12_named 5 = .ok (.aload_n 0, 1) := by decide +kernel
theorem dX12_named_6 : decode cX12_named 6 = .ok (.iload_n 1, 1) := by decide +kernel
theorem dX12_named_7 : decode cX12_named 7 = .ok (.iconst 0, 1) := by decide +kernel
theorem dX12_named_8 : decode cX12_named 8 = .ok (.aload_n 0, 1) := by decide +kernel
theorem dX12_named_9 : decode cX12_named 9 = .ok (.getfield 132, 3) := by decide +kernel
theorem dX12_named_12 : decode cX12_named 12 = .ok (.invokevirtual 179, 3) := by decide +kernel
theorem dX12_named_15 : decode cX12_named 15 = .ok (.ireturn, 1) := by decide +kernel
theorem dX12_of_0 : decode cX12_of 0 = .ok (.aload_n 0, 1) := by decide +kernel
theorem dX12_of_1 : decode cX12_of 1 = .ok (.getfield 32, 3) := by decide +kernel
theorem dX12_of_4 : decode cX12_of 4 = .ok (.sipush 200, 3) := by decide +kernel
theorem dX12_of_7 : decode cX12_of 7 = .ok (.aload_n 0, 1) := by decide +kernel
theorem dX12_of_8 : decode cX12_of 8 = .ok (.getfield 148, 3) := by decide +kernel
theorem dX12_of_11 : decode cX12_of 11 = .ok (.imul, 1) := by decide +kernel
theorem dX12_of_12 : decode cX12_of 12 = .ok (.iload_n 1, 1) := by decide +kernel
theorem dX12_of_13 : decode cX12_of 13 = .ok (.iadd, 1) := by decide +kernel
theorem dX12_of_14 : decode cX12_of 14 = .ok (.iaload, 1) := by decide +kernel
theorem dX12_of_15 : decode cX12_of 15 = .ok (.ireturn, 1) := by decide +kernel
theorem dX12_lay_0 : decode cX12_lay 0 = .ok (.aload_n 0, 1) := by decide +kernel
theorem dX12_lay_1 : decode cX12_lay 1 = .ok (.getfield 32, 3) := by decide +kernel
theorem dX12_lay_4 : decode cX12_lay 4 = .ok (.sipush 200, 3) := by decide +kernel
theorem dX12_lay_7 : decode cX12_lay 7 = .ok (.aload_n 0, 1) := by decide +kernel
theorem dX12_lay_8 : decode cX12_lay 8 = .ok (.getfield 148, 3) := by decide +kernel
theorem dX12_lay_11 : decode cX12_lay 11 = .ok (.imul, 1) := by decide +kernel
theorem dX12_lay_12 : decode cX12_lay 12 = .ok (.iload_n 1, 1) := by decide +kernel
theorem dX12_lay_13 : decode cX12_lay 13 = .ok (.iadd, 1) := by decide +kernel
theorem dX12_lay_14 : decode cX12_lay 14 = .ok (.iload_n 2, 1) := by decide +kernel
theorem dX12_lay_15 : decode cX12_lay 15 = .ok (.iastore, 1) := by decide +kernel
theorem dX12_lay_16 : decode cX12_lay 16 = .ok (.return_, 1) := by decide +kernel
theorem dX12_copyBank_0 : decode cX12_copyBank 0 = .ok (.iconst 0, 1) := by decide +kernel
theorem dX12_copyBank_1 : decode cX12_copyBank 1 = .ok (.istore_n 3, 1) := by decide +kernel
theorem dX12_copyBank_2 : decode cX12_copyBank 2 = .ok (.iload_n 3, 1) := by decide +kernel
theorem dX12_copyBank_3 : decode cX12_copyBank 3 = .ok (.sipush 200, 3) := by decide +kernel
theorem dX12_copyBank_6 : decode cX12_copyBank 6 = .ok (.if_icmp .ge 33, 3) := by decide +kernel
theorem dX12_copyBank_9 : decode cX12_copyBank 9 = .ok (.aload_n 0, 1) := by decide +kernel
theorem dX12_copyBank_10 : decode cX12_copyBank 10 = .ok (.getfield 32, 3) := by decide +kernel
theorem dX12_copyBank_13 : decode cX12_copyBank 13 = .ok (.sipush 200, 3) := by decide +kernel
theorem dX12_copyBank_16 : decode cX12_copyBank 16 = .ok (.iload_n 2, 1) := by decide +kernel
theorem dX12_copyBank_17 : decode cX12_copyBank 17 = .ok (.imul, 1) := by decide +kernel
theorem dX12_copyBank_18 : decode cX12_copyBank 18 = .ok (.iload_n 3, 1) := by decide +kernel
theorem dX12_copyBank_19 : decode cX12_copyBank 19 = .ok (.iadd, 1) := by decide +kernel
theorem dX12_copyBank_20 : decode cX12_copyBank 20 = .ok (.aload_n 0, 1) := by decide +kernel
theorem dX12_copyBank_21 : decode cX12_copyBank 21 = .ok (.getfield 32, 3) := by decide +kernel
theorem dX12_copyBank_24 : decode cX12_copyBank 24 = .ok (.sipush 200, 3) := by decide +kernel
theorem dX12_copyBank_27 : decode cX12_copyBank 27 = .ok (.iload_n 1, 1) := by decide +kernel
theorem dX12_copyBank_28 : decode cX12_copyBank 28 = .ok (.imul, 1) := by decide +kernel
theorem dX12_copyBank_29 : decode cX12_copyBank 29 = .ok (.iload_n 3, 1) := by decide +kernel
theorem dX12_copyBank_30 : decode cX12_copyBank 30 = .ok (.iadd, 1) := by decide +kernel
theorem dX12_copyBank_31 : decode cX12_copyBank 31 = .ok (.iaload, 1) := by decide +kernel
theorem dX12_copyBank_32 : decode cX12_copyBank 32 = .ok (.iastore, 1) := by decide +kernel
theorem dX12_copyBank_33 : decode cX12_copyBank 33 = .ok (.iinc 3 1, 3) := by decide +kernel
theorem dX12_copyBank_36 : decode cX12_copyBank 36 = .ok (.goto (-34), 3) := by decide +kernel
theorem dX12_copyBank_39 : decode cX12_copyBank 39 = .ok (.return_, 1) := by decide +kernel
theorem dX12_canUndo_0 : decode cX12_canUndo 0 = .ok (.aload_n 0, 1) := by decide +kernel
theorem dX12_canUndo_1 : decode cX12_canUndo 1 = .ok (.getfield 151, 3) := by decide +kernel
theorem dX12_canUndo_4 : decode cX12_canUndo 4 = .ok (.bipush 20, 2) := by decide +kernel
theorem dX12_canUndo_6 : decode cX12_canUndo 6 = .ok (.if_icmp .ne 33, 3) := by decide +kernel
theorem dX12_canUndo_9 : decode cX12_canUndo 9 = .ok (.iconst 1, 1) := by decide +kernel
theorem dX12_canUndo_10 : decode cX12_canUndo 10 = .ok (.istore_n 1, 1) := by decide +kernel
theorem dX12_canUndo_11 : decode cX12_canUndo 11 = .ok (.iload_n 1, 1) := by decide +kernel
theorem dX12_canUndo_12 : decode cX12_canUndo 12 = .ok (.bipush 20, 2) := by decide +kernel
theorem dX12_canUndo_14 : decode cX12_canUndo 14 = .ok (.if_icmp .ge 19, 3) := by decide +kernel
theorem dX12_canUndo_17 : decode cX12_canUndo 17 = .ok (.aload_n 0, 1) := by decide +kernel
theorem dX12_canUndo_18 : decode cX12_canUndo 18 = .ok (.iconst 3, 1) := by decide +kernel
theorem dX12_canUndo_19 : decode cX12_canUndo 19 = .ok (.iload_n 1, 1) := by decide +kernel
theorem dX12_canUndo_20 : decode cX12_canUndo 20 = .ok (.iadd, 1) := by decide +kernel
theorem dX12_canUndo_21 : decode cX12_canUndo 21 = .ok (.iconst 2, 1) := by decide +kernel
theorem dX12_canUndo_22 : decode cX12_canUndo 22 = .ok (.iload_n 1, 1) := by decide +kernel
theorem dX12_canUndo_23 : decode cX12_canUndo 23 = .ok (.iadd, 1) := by decide +kernel
theorem dX12_canUndo_24 : decode cX12_canUndo 24 = .ok (.invokevirtual 206, 3) := by decide +kernel
theorem dX12_canUndo_27 : decode cX12_canUndo 27 = .ok (.iinc 1 1, 3) := by decide +kernel
theorem dX12_canUndo_30 : decode cX12_canUndo 30 = .ok (.goto (-19), 3) := by decide +kernel
theorem dX12_canUndo_33 : decode cX12_canUndo 33 = .ok (.aload_n 0, 1) := by decide +kernel
theorem dX12_canUndo_34 : decode cX12_canUndo 34 = .ok (.bipush 19, 2) := by decide +kernel
theorem dX12_canUndo_36 : decode cX12_canUndo 36 = .ok (.putfield 151, 3) := by decide +kernel
theorem dX12_canUndo_39 : decode cX12_canUndo 39 = .ok (.aload_n 0, 1) := by decide +kernel
theorem dX12_canUndo_40 : decode cX12_canUndo 40 = .ok (.iconst 0, 1) := by decide +kernel
theorem dX12_canUndo_41 : decode cX12_canUndo 41 = .ok (.iconst 3, 1) := by decide +kernel
theorem dX12_canUndo_42 : decode cX12_canUndo 42 = .ok (.aload_n 0, 1) := by decide +kernel
theorem dX12_canUndo_43 : decode cX12_canUndo 43 = .ok (.getfield 151, 3) := by decide +kernel
theorem dX12_canUndo_46 : decode cX12_canUndo 46 = .ok (.iadd, 1) := by decide +kernel
theorem dX12_canUndo_47 : decode cX12_canUndo 47 = .ok (.invokevirtual 206, 3) := by decide +kernel
theorem dX12_canUndo_50 : decode cX12_canUndo 50 = .ok (.aload_n 0, 1) := by decide +kernel
theorem dX12_canUndo_51 : decode cX12_canUndo 51 = .ok (.dup, 1) := by decide +kernel
theorem dX12_canUndo_52 : decode cX12_canUndo 52 = .ok (.getfield 151, 3) := by decide +kernel
theorem dX12_canUndo_55 : decode cX12_canUndo 55 = .ok (.iconst 1, 1) := by decide +kernel
theorem dX12_canUndo_56 : decode cX12_canUndo 56 = .ok (.iadd, 1) := by decide +kernel
theorem dX12_canUndo_57 : decode cX12_canUndo 57 = .ok (.putfield 151, 3) := by decide +kernel
theorem dX12_canUndo_60 : decode cX12_canUndo 60 = .ok (.return_, 1) := by decide +kernel
theorem dX12_undo_0 : decode cX12_undo 0 = .ok (.aload_n 0, 1) := by decide +kernel
theorem dX12_undo_1 : decode cX12_undo 1 = .ok (.iconst 0, 1) := by decide +kernel
theorem dX12_undo_2 : decode cX12_undo 2 = .ok (.putfield 81, 3) := by decide +kernel
theorem dX12_undo_5 : decode cX12_undo 5 = .ok (.aload_n 0, 1) := by decide +kernel
theorem dX12_undo_6 : decode cX12_undo 6 = .ok (.getfield 151, 3) := by decide +kernel
theorem dX12_undo_9 : decode cX12_undo 9 = .ok (.ifCond .ne 5, 3) := by decide +kernel
theorem dX12_undo_12 : decode cX12_undo 12 = .ok (.iconst (-1), 1) := by decide +kernel
theorem dX12_undo_13 : decode cX12_undo 13 = .ok (.ireturn, 1) := by decide +kernel
theorem dX12_undo_14 : decode cX12_undo 14 = .ok (.aload_n 0, 1) := by decide +kernel
theorem dX12_undo_15 : decode cX12_undo 15 = .ok (.dup, 1) := by decide +kernel
theorem dX12_undo_16 : decode cX12_undo 16 = .ok (.getfield 151, 3) := by decide +kernel
theorem dX12_undo_19 : decode cX12_undo 19 = .ok (.iconst 1, 1) := by decide +kernel
theorem dX12_undo_20 : decode cX12_undo 20 = .ok (.isub, 1) := by decide +kernel
theorem dX12_undo_21 : decode cX12_undo 21 = .ok (.putfield 151, 3) := by decide +kernel
theorem dX12_undo_24 : decode cX12_undo 24 = .ok (.aload_n 0, 1) := by decide +kernel
theorem dX12_undo_25 : decode cX12_undo 25 = .ok (.iconst 3, 1) := by decide +kernel
theorem dX12_undo_26 : decode cX12_undo 26 = .ok (.aload_n 0, 1) := by decide +kernel
theorem dX12_undo_27 : decode cX12_undo 27 = .ok (.getfield 151, 3) := by decide +kernel
theorem dX12_undo_30 : decode cX12_undo 30 = .ok (.iadd, 1) := by decide +kernel
theorem dX12_undo_31 : decode cX12_undo 31 = .ok (.iconst 0, 1) := by decide +kernel
theorem dX12_undo_32 : decode cX12_undo 32 = .ok (.invokevirtual 206, 3) := by decide +kernel
theorem dX12_undo_35 : decode cX12_undo 35 = .ok (.aload_n 0, 1) := by decide +kernel
theorem dX12_undo_36 : decode cX12_undo 36 = .ok (.getfield 151, 3) := by decide +kernel
theorem dX12_undo_39 : decode cX12_undo 39 = .ok (.ireturn, 1) := by decide +kernel
theorem dX12_keep_0 : decode cX12_keep 0 = .ok (.aload_n 0, 1) := by decide +kernel
theorem dX12_keep_1 : decode cX12_keep 1 = .ok (.iconst 0, 1) := by decide +kernel
theorem dX12_keep_2 : decode cX12_keep 2 = .ok (.putfield 81, 3) := by decide +kernel
theorem dX12_keep_5 : decode cX12_keep 5 = .ok (.aload_n 0, 1) := by decide +kernel
theorem dX12_keep_6 : decode cX12_keep 6 = .ok (.iconst 0, 1) := by decide +kernel
theorem dX12_keep_7 : decode cX12_keep 7 = .ok (.iconst 2, 1) := by decide +kernel
theorem dX12_keep_8 : decode cX12_keep 8 = .ok (.invokevirtual 206, 3) := by decide +kernel
theorem dX12_keep_11 : decode cX12_keep 11 = .ok (.aload_n 0, 1) := by decide +kernel
theorem dX12_keep_12 : decode cX12_keep 12 = .ok (.iconst 1, 1) := by decide +kernel
theorem dX12_keep_13 : decode cX12_keep 13 = .ok (.putfield 154, 3) := by decide +kernel
theorem dX12_keep_16 : decode cX12_keep 16 = .ok (.aload_n 0, 1) := by decide +kernel
theorem dX12_keep_17 : decode cX12_keep 17 = .ok (.iconst 0, 1) := by decide +kernel
theorem dX12_keep_18 : decode cX12_keep 18 = .ok (.invokevirtual 209, 3) := by decide +kernel
theorem dX12_keep_21 : decode cX12_keep 21 = .ok (.ireturn, 1) := by decide +kernel
theorem dX12_back_0 : decode cX12_back 0 = .ok (.aload_n 0, 1) := by decide +kernel
theorem dX12_back_1 : decode cX12_back 1 = .ok (.iconst 0, 1) := by decide +kernel
theorem dX12_back_2 : decode cX12_back 2 = .ok (.putfield 81, 3) := by decide +kernel
theorem dX12_back_5 : decode cX12_back 5 = .ok (.aload_n 0, 1) := by decide +kernel
theorem dX12_back_6 : decode cX12_back 6 = .ok (.getfield 154, 3) := by decide +kernel
theorem dX12_back_9 : decode cX12_back 9 = .ok (.ifCond .ne 5, 3) := by decide +kernel
theorem dX12_back_12 : decode cX12_back 12 = .ok (.iconst (-1), 1) := by decide +kernel
theorem dX12_back_13 : decode cX12_back 13 = .ok (.ireturn, 1) := by decide +kernel
theorem dX12_back_14 : decode cX12_back 14 = .ok (.aload_n 0, 1) := by decide +kernel
theorem dX12_back_15 : decode cX12_back 15 = .ok (.iconst 2, 1) := by decide +kernel
theorem dX12_back_16 : decode cX12_back 16 = .ok (.iconst 0, 1) := by decide +kernel
theorem dX12_back_17 : decode cX12_back 17 = .ok (.invokevirtual 206, 3) := by decide +kernel
theorem dX12_back_20 : decode cX12_back 20 = .ok (.aload_n 0, 1) := by decide +kernel
theorem dX12_back_21 : decode cX12_back 21 = .ok (.iconst 0, 1) := by decide +kernel
theorem dX12_back_22 : decode cX12_back 22 = .ok (.putfield 151, 3) := by decide +kernel
theorem dX12_back_25 : decode cX12_back 25 = .ok (.aload_n 0, 1) := by decide +kernel
theorem dX12_back_26 : decode cX12_back 26 = .ok (.iconst 0, 1) := by decide +kernel
theorem dX12_back_27 : decode cX12_back 27 = .ok (.invokevirtual 209, 3) := by decide +kernel
theorem dX12_back_30 : decode cX12_back 30 = .ok (.ireturn, 1) := by decide +kernel
theorem dX12_isMember_0 : decode cX12_isMember 0 = .ok (.iload_n 1, 1) := by decide +kernel
theorem dX12_isMember_1 : decode cX12_isMember 1 = .ok (.ifCond .lt 15, 3) := by decide +kernel
theorem dX12_isMember_4 : decode cX12_isMember 4 = .ok (.iload_n 1, 1) := by decide +kernel
theorem dX12_isMember_5 : decode cX12_isMember 5 = .ok (.aload_n 0, 1) := by decide +kernel
theorem dX12_isMember_6 : decode cX12_isMember 6 = .ok (.getfield 132, 3) := by decide +kernel
theorem dX12_isMember_9 : decode cX12_isMember 9 = .ok (.if_icmp .ge 7, 3) := by decide +kernel
theorem dX12_isMember_12 : decode cX12_isMember 12 = .ok (.iconst 1, 1) := by decide +kernel
theorem dX12_isMember_13 : decode cX12_isMember 13 = .ok (.goto 4, 3) := by decide +kernel
theorem dX12_isMember_16 : decode cX12_isMember 16 = .ok (.iconst 0, 1) := by decide +kernel
theorem dX12_isMember_17 : decode cX12_isMember 17 = .ok (.ireturn, 1) := by decide +kernel
theorem dX12_isPeriod_0 : decode cX12_isPeriod 0 = .ok (.iload_n 1, 1) := by decide +kernel
theorem dX12_isPeriod_1 : decode cX12_isPeriod 1 = .ok (.ifCond .lt 15, 3) := by decide +kernel
theorem dX12_isPeriod_4 : decode cX12_isPeriod 4 = .ok (.iload_n 1, 1) := by decide +kernel
theorem dX12_isPeriod_5 : decode cX12_isPeriod 5 = .ok (.aload_n 0, 1) := by decide +kernel
theorem dX12_isPeriod_6 : decode cX12_isPeriod 6 = .ok (.getfield 135, 3) := by decide +kernel
theorem dX12_isPeriod_9 : decode cX12_isPeriod 9 = .ok (.if_icmp .ge 7, 3) := by decide +kernel
theorem dX12_isPeriod_12 : decode cX12_isPeriod 12 = .ok (.iconst 1, 1) := by decide +kernel
theorem dX12_isPeriod_13 : decode cX12_isPeriod 13 = .ok (.goto 4, 3) := by decide +kernel
theorem dX12_isPeriod_16 : decode cX12_isPeriod 16 = .ok (.iconst 0, 1) := by decide +kernel
theorem dX12_isPeriod_17 : decode cX12_isPeriod 17 = .ok (.ireturn, 1) := by decide +kernel
theorem dX12_isDay_0 : decode cX12_isDay 0 = .ok (.iload_n 0, 1) := by decide +kernel
theorem dX12_isDay_1 : decode cX12_isDay 1 = .ok (.ifCond .lt 14, 3) := by decide +kernel
theorem dX12_isDay_4 : decode cX12_isDay 4 = .ok (.iload_n 0, 1) := by decide +kernel
theorem dX12_isDay_5 : decode cX12_isDay 5 = .ok (.sipush 1000, 3) := by decide +kernel
theorem dX12_isDay_8 : decode cX12_isDay 8 = .ok (.if_icmp .ge 7, 3) := by decide +kernel
theorem dX12_isDay_11 : decode cX12_isDay 11 = .ok (.iconst 1, 1) := by decide +kernel
theorem dX12_isDay_12 : decode cX12_isDay 12 = .ok (.goto 4, 3) := by decide +kernel
theorem dX12_isDay_15 : decode cX12_isDay 15 = .ok (.iconst 0, 1) := by decide +kernel
theorem dX12_isDay_16 : decode cX12_isDay 16 = .ok (.ireturn, 1) := by decide +kernel
theorem dX12_memberOf_0 : decode cX12_memberOf 0 = .ok (.aload_n 0, 1) := by decide +kernel
theorem dX12_memberOf_1 : decode cX12_memberOf 1 = .ok (.getfield 23, 3) := by decide +kernel
theorem dX12_memberOf_4 : decode cX12_memberOf 4 = .ok (.iconst 4, 1) := by decide +kernel
theorem dX12_memberOf_5 : decode cX12_memberOf 5 = .ok (.iload_n 1, 1) := by decide +kernel
theorem dX12_memberOf_6 : decode cX12_memberOf 6 = .ok (.imul, 1) := by decide +kernel
theorem dX12_memberOf_7 : decode cX12_memberOf 7 = .ok (.iaload, 1) := by decide +kernel
theorem dX12_memberOf_8 : decode cX12_memberOf 8 = .ok (.ireturn, 1) := by decide +kernel
theorem dX12_result_0 : decode cX12_result 0 = .ok (.aload_n 0, 1) := by decide +kernel
theorem dX12_result_1 : decode cX12_result 1 = .ok (.bipush 91, 2) := by decide +kernel
theorem dX12_result_3 : decode cX12_result 3 = .ok (.iload_n 1, 1) := by decide +kernel
theorem dX12_result_4 : decode cX12_result 4 = .ok (.iadd, 1) := by decide +kernel
theorem dX12_result_5 : decode cX12_result 5 = .ok (.invokevirtual 209, 3) := by decide +kernel
theorem dX12_result_8 : decode cX12_result 8 = .ok (.ireturn, 1) := by decide +kernel
theorem dX12_percentOf_0 : decode cX12_percentOf 0 = .ok (.iconst (-1), 1) := by decide +kernel
theorem dX12_percentOf_1 : decode cX12_percentOf 1 = .ok (.istore 4, 2) := by decide +kernel
theorem dX12_percentOf_3 : decode cX12_percentOf 3 = .ok (.iconst 0, 1) := by decide +kernel
theorem dX12_percentOf_4 : decode cX12_percentOf 4 = .ok (.istore 5, 2) := by decide +kernel
theorem dX12_percentOf_6 : decode cX12_percentOf 6 = .ok (.iload 5, 2) := by decide +kernel
theorem dX12_percentOf_8 : decode cX12_percentOf 8 = .ok (.aload_n 0, 1) := by decide +kernel
theorem dX12_percentOf_9 : decode cX12_percentOf 9 = .ok (.bipush 103, 2) := by decide +kernel
theorem dX12_percentOf_11 : decode cX12_percentOf 11 = .ok (.invokevirtual 209, 3) := by decide +kernel
theorem dX12_percentOf_14 : decode cX12_percentOf 14 = .ok (.if_icmp .ge 88, 3) := by decide +kernel
theorem dX12_percentOf_17 : decode cX12_percentOf 17 = .ok (.bipush 104, 2) := by decide +kernel
theorem dX12_percentOf_19 : decode cX12_percentOf 19 = .ok (.iconst 4, 1) := by decide +kernel
theorem dX12_percentOf_20 : decode cX12_percentOf 20 = .ok (.iload 5, 2) := by decide +kernel
theorem dX12_percentOf_22 : decode cX12_percentOf 22 = .ok (.imul, 1) := by decide +kernel
theorem dX12_percentOf_23 : decode cX12_percentOf 23 = .ok (.iadd, 1) := by decide +kernel
theorem dX12_percentOf_24 : decode cX12_percentOf 24 = .ok (.istore 6, 2) := by decide +kernel
theorem dX12_percentOf_26 : decode cX12_percentOf 26 = .ok (.aload_n 0, 1) := by decide +kernel
theorem dX12_percentOf_27 : decode cX12_percentOf 27 = .ok (.iload 6, 2) := by decide +kernel
theorem dX12_percentOf_29 : decode cX12_percentOf 29 = .ok (.invokevirtual 209, 3) := by decide +kernel
theorem dX12_percentOf_32 : decode cX12_percentOf 32 = .ok (.iload_n 1, 1) := by decide +kernel
theorem dX12_percentOf_33 : decode cX12_percentOf 33 = .ok (.if_icmp .ne 63, 3) := by decide +kernel
theorem dX12_percentOf_36 : decode cX12_percentOf 36 = .ok (.aload_n 0, 1) := by decide +kernel
theorem dX12_percentOf_37 : decode cX12_percentOf 37 = .ok (.iload 6, 2) := by decide +kernel
theorem dX12_percentOf_39 : decode cX12_percentOf 39 = .ok (.iconst 1, 1) := by decide +kernel
theorem dX12_percentOf_40 : decode cX12_percentOf 40 = .ok (.iadd, 1) := by decide +kernel
theorem dX12_percentOf_41 : decode cX12_percentOf 41 = .ok (.invokevirtual 209, 3) := by decide +kernel
theorem dX12_percentOf_44 : decode cX12_percentOf 44 = .ok (.iload_n 2, 1) := by decide +kernel
theorem dX12_percentOf_45 : decode cX12_percentOf 45 = .ok (.if_icmp .ne 51, 3) := by decide +kernel
theorem dX12_percentOf_48 : decode cX12_percentOf 48 = .ok (.aload_n 0, 1) := by decide +kernel
theorem dX12_percentOf_49 : decode cX12_percentOf 49 = .ok (.iload 6, 2) := by decide +kernel
theorem dX12_percentOf_51 : decode cX12_percentOf 51 = .ok (.iconst 3, 1) := by decide +kernel
theorem dX12_percentOf_52 : decode cX12_percentOf 52 = .ok (.iadd, 1) := by decide +kernel
theorem dX12_percentOf_53 : decode cX12_percentOf 53 = .ok (.invokevirtual 209, 3) := by decide +kernel
theorem dX12_percentOf_56 : decode cX12_percentOf 56 = .ok (.iload_n 3, 1) := by decide +kernel
theorem dX12_percentOf_57 : decode cX12_percentOf 57 = .ok (.if_icmp .le 6, 3) := by decide +kernel
theorem dX12_percentOf_60 : decode cX12_percentOf 60 = .ok (.goto 36, 3) := by decide +kernel
theorem dX12_percentOf_63 : decode cX12_percentOf 63 = .ok (.iload 4, 2) := by decide +kernel
theorem dX12_percentOf_65 : decode cX12_percentOf 65 = .ok (.ifCond .lt 27, 3) := by decide +kernel
theorem dX12_percentOf_68 : decode cX12_percentOf 68 = .ok (.aload_n 0, 1) := by decide +kernel
theorem dX12_percentOf_69 : decode cX12_percentOf 69 = .ok (.iload 6, 2) := by decide +kernel
theorem dX12_percentOf_71 : decode cX12_percentOf 71 = .ok (.iconst 3, 1) := by decide +kernel
theorem dX12_percentOf_72 : decode cX12_percentOf 72 = .ok (.iadd, 1) := by decide +kernel
theorem dX12_percentOf_73 : decode cX12_percentOf 73 = .ok (.invokevirtual 209, 3) := by decide +kernel
theorem dX12_percentOf_76 : decode cX12_percentOf 76 = .ok (.aload_n 0, 1) := by decide +kernel
theorem dX12_percentOf_77 : decode cX12_percentOf 77 = .ok (.bipush 104, 2) := by decide +kernel
theorem dX12_percentOf_79 : decode cX12_percentOf 79 = .ok (.iconst 4, 1) := by decide +kernel
theorem dX12_percentOf_80 : decode cX12_percentOf 80 = .ok (.iload 4, 2) := by decide +kernel
theorem dX12_percentOf_82 : decode cX12_percentOf 82 = .ok (.imul, 1) := by decide +kernel
theorem dX12_percentOf_83 : decode cX12_percentOf 83 = .ok (.iadd, 1) := by decide +kernel
theorem dX12_percentOf_84 : decode cX12_percentOf 84 = .ok (.iconst 3, 1) := by decide +kernel
theorem dX12_percentOf_85 : decode cX12_percentOf 85 = .ok (.iadd, 1) := by decide +kernel
theorem dX12_percentOf_86 : decode cX12_percentOf 86 = .ok (.invokevirtual 209, 3) := by decide +kernel
theorem dX12_percentOf_89 : decode cX12_percentOf 89 = .ok (.if_icmp .lt 7, 3) := by decide +kernel
theorem dX12_percentOf_92 : decode cX12_percentOf 92 = .ok (.iload 5, 2) := by decide +kernel
theorem dX12_percentOf_94 : decode cX12_percentOf 94 = .ok (.istore 4, 2) := by decide +kernel
theorem dX12_percentOf_96 : decode cX12_percentOf 96 = .ok (.iinc 5 1, 3) := by decide +kernel
theorem dX12_percentOf_99 : decode cX12_percentOf 99 = .ok (.goto (-93), 3) := by decide +kernel
theorem dX12_percentOf_102 : decode cX12_percentOf 102 = .ok (.iload 4, 2) := by decide +kernel
theorem dX12_percentOf_104 : decode cX12_percentOf 104 = .ok (.ifCond .ge 7, 3) := by decide +kernel
theorem dX12_percentOf_107 : decode cX12_percentOf 107 = .ok (.iconst 0, 1) := by decide +kernel
theorem dX12_percentOf_108 : decode cX12_percentOf 108 = .ok (.goto 16, 3) := by decide +kernel
theorem dX12_percentOf_111 : decode cX12_percentOf 111 = .ok (.aload_n 0, 1) := by decide +kernel
theorem dX12_percentOf_112 : decode cX12_percentOf 112 = .ok (.bipush 104, 2) := by decide +kernel
theorem dX12_percentOf_114 : decode cX12_percentOf 114 = .ok (.iconst 4, 1) := by decide +kernel
theorem dX12_percentOf_115 : decode cX12_percentOf 115 = .ok (.iload 4, 2) := by decide +kernel
theorem dX12_percentOf_117 : decode cX12_percentOf 117 = .ok (.imul, 1) := by decide +kernel
theorem dX12_percentOf_118 : decode cX12_percentOf 118 = .ok (.iadd, 1) := by decide +kernel
theorem dX12_percentOf_119 : decode cX12_percentOf 119 = .ok (.iconst 2, 1) := by decide +kernel
theorem dX12_percentOf_120 : decode cX12_percentOf 120 = .ok (.iadd, 1) := by decide +kernel
theorem dX12_percentOf_121 : decode cX12_percentOf 121 = .ok (.invokevirtual 209, 3) := by decide +kernel
theorem dX12_percentOf_124 : decode cX12_percentOf 124 = .ok (.ireturn, 1) := by decide +kernel
theorem dX12_laysShares_0 : decode cX12_laysShares 0 = .ok (.iconst 0, 1) := by decide +kernel
theorem dX12_laysShares_1 : decode cX12_laysShares 1 = .ok (.istore_n 2, 1) := by decide +kernel
theorem dX12_laysShares_2 : decode cX12_laysShares 2 = .ok (.iload_n 2, 1) := by decide +kernel
theorem dX12_laysShares_3 : decode cX12_laysShares 3 = .ok (.aload_n 0, 1) := by decide +kernel
theorem dX12_laysShares_4 : decode cX12_laysShares 4 = .ok (.getfield 132, 3) := by decide +kernel
theorem dX12_laysShares_7 : decode cX12_laysShares 7 = .ok (.if_icmp .ge 95, 3) := by decide +kernel
theorem dX12_laysShares_10 : decode cX12_laysShares 10 = .ok (.iconst 0, 1) := by decide +kernel
theorem dX12_laysShares_11 : decode cX12_laysShares 11 = .ok (.istore_n 3, 1) := by decide +kernel
theorem dX12_laysShares_12 : decode cX12_laysShares 12 = .ok (.iload_n 3, 1) := by decide +kernel
theorem dX12_laysShares_13 : decode cX12_laysShares 13 = .ok (.aload_n 0, 1) := by decide +kernel
theorem dX12_laysShares_14 : decode cX12_laysShares 14 = .ok (.getfield 132, 3) := by decide +kernel
theorem dX12_laysShares_17 : decode cX12_laysShares 17 = .ok (.if_icmp .ge 79, 3) := by decide +kernel
theorem dX12_laysShares_20 : decode cX12_laysShares 20 = .ok (.iload_n 2, 1) := by decide +kernel
theorem dX12_laysShares_21 : decode cX12_laysShares 21 = .ok (.iload_n 3, 1) := by decide +kernel
theorem dX12_laysShares_22 : decode cX12_laysShares 22 = .ok (.if_icmp .ne 7, 3) := by decide +kernel
theorem dX12_laysShares_25 : decode cX12_laysShares 25 = .ok (.fconst 1, 1) := by decide +kernel
theorem dX12_laysShares_26 : decode cX12_laysShares 26 = .ok (.goto 4, 3) := by decide +kernel
theorem dX12_laysShares_29 : decode cX12_laysShares 29 = .ok (.fconst 0, 1) := by decide +kernel
theorem dX12_laysShares_30 : decode cX12_laysShares 30 = .ok (.fstore 4, 2) := by decide +kernel
theorem dX12_laysShares_32 : decode cX12_laysShares 32 = .ok (.iload_n 2, 1) := by decide +kernel
theorem dX12_laysShares_33 : decode cX12_laysShares 33 = .ok (.istore 5, 2) := by decide +kernel
theorem dX12_laysShares_35 : decode cX12_laysShares 35 = .ok (.iload 5, 2) := by decide +kernel
theorem dX12_laysShares_37 : decode cX12_laysShares 37 = .ok (.iload_n 3, 1) := by decide +kernel
theorem dX12_laysShares_38 : decode cX12_laysShares 38 = .ok (.if_icmp .ge 39, 3) := by decide +kernel
theorem dX12_laysShares_41 : decode cX12_laysShares 41 = .ok (.fload 4, 2) := by decide +kernel
theorem dX12_laysShares_43 : decode cX12_laysShares 43 = .ok (.aload_n 0, 1) := by decide +kernel
theorem dX12_laysShares_44 : decode cX12_laysShares 44 = .ok (.getfield 35, 3) := by decide +kernel
theorem dX12_laysShares_47 : decode cX12_laysShares 47 = .ok (.bipush 8, 2) := by decide +kernel
theorem dX12_laysShares_49 : decode cX12_laysShares 49 = .ok (.iload_n 2, 1) := by decide +kernel
theorem dX12_laysShares_50 : decode cX12_laysShares 50 = .ok (.imul, 1) := by decide +kernel
theorem dX12_laysShares_51 : decode cX12_laysShares 51 = .ok (.iload 5, 2) := by decide +kernel
theorem dX12_laysShares_53 : decode cX12_laysShares 53 = .ok (.iadd, 1) := by decide +kernel
theorem dX12_laysShares_54 : decode cX12_laysShares 54 = .ok (.faload, 1) := by decide +kernel
theorem dX12_laysShares_55 : decode cX12_laysShares 55 = .ok (.aload_n 0, 1) := by decide +kernel
theorem dX12_laysShares_56 : decode cX12_laysShares 56 = .ok (.iload 5, 2) := by decide +kernel
theorem dX12_laysShares_58 : decode cX12_laysShares 58 = .ok (.iload_n 3, 1) := by decide +kernel
theorem dX12_laysShares_59 : decode cX12_laysShares 59 = .ok (.iload_n 1, 1) := by decide +kernel
theorem dX12_laysShares_60 : decode cX12_laysShares 60 = .ok (.invokevirtual 213, 3) := by decide +kernel
theorem dX12_laysShares_63 : decode cX12_laysShares 63 = .ok (.i2f, 1) := by decide +kernel
theorem dX12_laysShares_64 : decode cX12_laysShares 64 = .ok (.ldc 216, 2) := by decide +kernel
theorem dX12_laysShares_66 : decode cX12_laysShares 66 = .ok (.fdiv, 1) := by decide +kernel
theorem dX12_laysShares_67 : decode cX12_laysShares 67 = .ok (.fmul, 1) := by decide +kernel
theorem dX12_laysShares_68 : decode cX12_laysShares 68 = .ok (.fadd, 1) := by decide +kernel
theorem dX12_laysShares_69 : decode cX12_laysShares 69 = .ok (.fstore 4, 2) := by decide +kernel
theorem dX12_laysShares_71 : decode cX12_laysShares 71 = .ok (.iinc 5 1, 3) := by decide +kernel
theorem dX12_laysShares_74 : decode cX12_laysShares 74 = .ok (.goto (-39), 3) := by decide +kernel
theorem dX12_laysShares_77 : decode cX12_laysShares 77 = .ok (.aload_n 0, 1) := by decide +kernel
theorem dX12_laysShares_78 : decode cX12_laysShares 78 = .ok (.getfield 35, 3) := by decide +kernel
theorem dX12_laysShares_81 : decode cX12_laysShares 81 = .ok (.bipush 8, 2) := by decide +kernel
theorem dX12_laysShares_83 : decode cX12_laysShares 83 = .ok (.iload_n 2, 1) := by decide +kernel
theorem dX12_laysShares_84 : decode cX12_laysShares 84 = .ok (.imul, 1) := by decide +kernel
theorem dX12_laysShares_85 : decode cX12_laysShares 85 = .ok (.iload_n 3, 1) := by decide +kernel
theorem dX12_laysShares_86 : decode cX12_laysShares 86 = .ok (.iadd, 1) := by decide +kernel
theorem dX12_laysShares_87 : decode cX12_laysShares 87 = .ok (.fload 4, 2) := by decide +kernel
theorem dX12_laysShares_89 : decode cX12_laysShares 89 = .ok (.fastore, 1) := by decide +kernel
theorem dX12_laysShares_90 : decode cX12_laysShares 90 = .ok (.iinc 3 1, 3) := by decide +kernel
theorem dX12_laysShares_93 : decode cX12_laysShares 93 = .ok (.goto (-81), 3) := by decide +kernel
theorem dX12_laysShares_96 : decode cX12_laysShares 96 = .ok (.iinc 2 1, 3) := by decide +kernel
theorem dX12_laysShares_99 : decode cX12_laysShares 99 = .ok (.goto (-97), 3) := by decide +kernel
theorem dX12_laysShares_102 : decode cX12_laysShares 102 = .ok (.return_, 1) := by decide +kernel
theorem dX12_isControl_0 : decode cX12_isControl 0 = .ok (.iload_n 1, 1) := by decide +kernel
theorem dX12_isControl_1 : decode cX12_isControl 1 = .ok (.iload_n 2, 1) := by decide +kernel
theorem dX12_isControl_2 : decode cX12_isControl 2 = .ok (.if_icmp .ge 27, 3) := by decide +kernel
theorem dX12_isControl_5 : decode cX12_isControl 5 = .ok (.aload_n 0, 1) := by decide +kernel
theorem dX12_isControl_6 : decode cX12_isControl 6 = .ok (.getfield 35, 3) := by decide +kernel
theorem dX12_isControl_9 : decode cX12_isControl 9 = .ok (.bipush 8, 2) := by decide +kernel
theorem dX12_isControl_11 : decode cX12_isControl 11 = .ok (.iload_n 1, 1) := by decide +kernel
theorem dX12_isControl_12 : decode cX12_isControl 12 = .ok (.imul, 1) := by decide +kernel
theorem dX12_isControl_13 : decode cX12_isControl 13 = .ok (.iload_n 2, 1) := by decide +kernel
theorem dX12_isControl_14 : decode cX12_isControl 14 = .ok (.iadd, 1) := by decide +kernel
theorem dX12_isControl_15 : decode cX12_isControl 15 = .ok (.faload, 1) := by decide +kernel
theorem dX12_isControl_16 : decode cX12_isControl 16 = .ok (.ldc 216, 2) := by decide +kernel
theorem dX12_isControl_18 : decode cX12_isControl 18 = .ok (.fmul, 1) := by decide +kernel
theorem dX12_isControl_19 : decode cX12_isControl 19 = .ok (.iload_n 3, 1) := by decide +kernel
theorem dX12_isControl_20 : decode cX12_isControl 20 = .ok (.i2f, 1) := by decide +kernel
theorem dX12_isControl_21 : decode cX12_isControl 21 = .ok (.fcmp .l, 1) := by decide +kernel
theorem dX12_isControl_22 : decode cX12_isControl 22 = .ok (.ifCond .lt 7, 3) := by decide +kernel
theorem dX12_isControl_25 : decode cX12_isControl 25 = .ok (.iconst 1, 1) := by decide +kernel
theorem dX12_isControl_26 : decode cX12_isControl 26 = .ok (.goto 4, 3) := by decide +kernel
theorem dX12_isControl_29 : decode cX12_isControl 29 = .ok (.iconst 0, 1) := by decide +kernel
theorem dX12_isControl_30 : decode cX12_isControl 30 = .ok (.ireturn, 1) := by decide +kernel
theorem dX12_areRelated_0 : decode cX12_areRelated 0 = .ok (.iload_n 1, 1) := by decide +kernel
theorem dX12_areRelated_1 : decode cX12_areRelated 1 = .ok (.iload_n 2, 1) := by decide +kernel
theorem dX12_areRelated_2 : decode cX12_areRelated 2 = .ok (.if_icmp .ne 5, 3) := by decide +kernel
theorem dX12_areRelated_5 : decode cX12_areRelated 5 = .ok (.iconst 0, 1) := by decide +kernel
theorem dX12_areRelated_6 : decode cX12_areRelated 6 = .ok (.ireturn, 1) := by decide +kernel
theorem dX12_areRelated_7 : decode cX12_areRelated 7 = .ok (.aload_n 0, 1) := by decide +kernel
theorem dX12_areRelated_8 : decode cX12_areRelated 8 = .ok (.iload_n 1, 1) := by decide +kernel
theorem dX12_areRelated_9 : decode cX12_areRelated 9 = .ok (.iload_n 2, 1) := by decide +kernel
theorem dX12_areRelated_10 : decode cX12_areRelated 10 = .ok (.iload_n 3, 1) := by decide +kernel
theorem dX12_areRelated_11 : decode cX12_areRelated 11 = .ok (.invokevirtual 217, 3) := by decide +kernel
theorem dX12_areRelated_14 : decode cX12_areRelated 14 = .ok (.ifCond .ne 13, 3) := by decide +kernel
theorem dX12_areRelated_17 : decode cX12_areRelated 17 = .ok (.aload_n 0, 1) := by decide +kernel
theorem dX12_areRelated_18 : decode cX12_areRelated 18 = .ok (.iload_n 2, 1) := by decide +kernel
theorem dX12_areRelated_19 : decode cX12_areRelated 19 = .ok (.iload_n 1, 1) := by decide +kernel
theorem dX12_areRelated_20 : decode cX12_areRelated 20 = .ok (.iload_n 3, 1) := by decide +kernel
theorem dX12_areRelated_21 : decode cX12_areRelated 21 = .ok (.invokevirtual 217, 3) := by decide +kernel
theorem dX12_areRelated_24 : decode cX12_areRelated 24 = .ok (.ifCond .eq 5, 3) := by decide +kernel
theorem dX12_areRelated_27 : decode cX12_areRelated 27 = .ok (.iconst 1, 1) := by decide +kernel
theorem dX12_areRelated_28 : decode cX12_areRelated 28 = .ok (.ireturn, 1) := by decide +kernel
theorem dX12_areRelated_29 : decode cX12_areRelated 29 = .ok (.iconst 0, 1) := by decide +kernel
theorem dX12_areRelated_30 : decode cX12_areRelated 30 = .ok (.istore 4, 2) := by decide +kernel
theorem dX12_areRelated_32 : decode cX12_areRelated 32 = .ok (.iload 4, 2) := by decide +kernel
theorem dX12_areRelated_34 : decode cX12_areRelated 34 = .ok (.aload_n 0, 1) := by decide +kernel
theorem dX12_areRelated_35 : decode cX12_areRelated 35 = .ok (.getfield 132, 3) := by decide +kernel
theorem dX12_areRelated_38 : decode cX12_areRelated 38 = .ok (.if_icmp .ge 33, 3) := by decide +kernel
theorem dX12_areRelated_41 : decode cX12_areRelated 41 = .ok (.aload_n 0, 1) := by decide +kernel
theorem dX12_areRelated_42 : decode cX12_areRelated 42 = .ok (.iload 4, 2) := by decide +kernel
theorem dX12_areRelated_44 : decode cX12_areRelated 44 = .ok (.iload_n 1, 1) := by decide +kernel
theorem dX12_areRelated_45 : decode cX12_areRelated 45 = .ok (.iload_n 3, 1) := by decide +kernel
theorem dX12_areRelated_46 : decode cX12_areRelated 46 = .ok (.invokevirtual 217, 3) := by decide +kernel
theorem dX12_areRelated_49 : decode cX12_areRelated 49 = .ok (.ifCond .eq 16, 3) := by decide +kernel
theorem dX12_areRelated_52 : decode cX12_areRelated 52 = .ok (.aload_n 0, 1) := by decide +kernel
theorem dX12_areRelated_53 : decode cX12_areRelated 53 = .ok (.iload 4, 2) := by decide +kernel
theorem dX12_areRelated_55 : decode cX12_areRelated 55 = .ok (.iload_n 2, 1) := by decide +kernel
theorem dX12_areRelated_56 : decode cX12_areRelated 56 = .ok (.iload_n 3, 1) := by decide +kernel
theorem dX12_areRelated_57 : decode cX12_areRelated 57 = .ok (.invokevirtual 217, 3) := by decide +kernel
theorem dX12_areRelated_60 : decode cX12_areRelated 60 = .ok (.ifCond .eq 5, 3) := by decide +kernel
theorem dX12_areRelated_63 : decode cX12_areRelated 63 = .ok (.iconst 1, 1) := by decide +kernel
theorem dX12_areRelated_64 : decode cX12_areRelated 64 = .ok (.ireturn, 1) := by decide +kernel
theorem dX12_areRelated_65 : decode cX12_areRelated 65 = .ok (.iinc 4 1, 3) := by decide +kernel
theorem dX12_areRelated_68 : decode cX12_areRelated 68 = .ok (.goto (-36), 3) := by decide +kernel
theorem dX12_areRelated_71 : decode cX12_areRelated 71 = .ok (.iconst 0, 1) := by decide +kernel
theorem dX12_areRelated_72 : decode cX12_areRelated 72 = .ok (.ireturn, 1) := by decide +kernel
theorem dX12_laysStretches_0 : decode cX12_laysStretches 0 = .ok (.aload_n 0, 1) := by decide +kernel
theorem dX12_laysStretches_1 : decode cX12_laysStretches 1 = .ok (.iconst 0, 1) := by decide +kernel
theorem dX12_laysStretches_2 : decode cX12_laysStretches 2 = .ok (.putfield 220, 3) := by decide +kernel
theorem dX12_laysStretches_5 : decode cX12_laysStretches 5 = .ok (.iconst 0, 1) := by decide +kernel
theorem dX12_laysStretches_6 : decode cX12_laysStretches 6 = .ok (.istore_n 2, 1) := by decide +kernel
theorem dX12_laysStretches_7 : decode cX12_laysStretches 7 = .ok (.iload_n 2, 1) := by decide +kernel
theorem dX12_laysStretches_8 : decode cX12_laysStretches 8 = .ok (.sipush 1000, 3) := by decide +kernel
theorem dX12_laysStretches_11 : decode cX12_laysStretches 11 = .ok (.if_icmp .ge 164, 3) := by decide +kernel
theorem dX12_laysStretches_14 : decode cX12_laysStretches 14 = .ok (.aload_n 0, 1) := by decide +kernel
theorem dX12_laysStretches_15 : decode cX12_laysStretches 15 = .ok (.getfield 39, 3) := by decide +kernel
theorem dX12_laysStretches_18 : decode cX12_laysStretches 18 = .ok (.aload_n 0, 1) := by decide +kernel
theorem dX12_laysStretches_19 : decode cX12_laysStretches 19 = .ok (.getfield 220, 3) := by decide +kernel
theorem dX12_laysStretches_22 : decode cX12_laysStretches 22 = .ok (.iload_n 2, 1) := by decide +kernel
theorem dX12_laysStretches_23 : decode cX12_laysStretches 23 = .ok (.iastore, 1) := by decide +kernel
theorem dX12_laysStretches_24 : decode cX12_laysStretches 24 = .ok (.aload_n 0, 1) := by decide +kernel
theorem dX12_laysStretches_25 : decode cX12_laysStretches 25 = .ok (.iload_n 2, 1) := by decide +kernel
theorem dX12_laysStretches_26 : decode cX12_laysStretches 26 = .ok (.invokevirtual 223, 3) := by decide +kernel
theorem dX12_laysStretches_29 : decode cX12_laysStretches 29 = .ok (.iconst 0, 1) := by decide +kernel
theorem dX12_laysStretches_30 : decode cX12_laysStretches 30 = .ok (.istore_n 3, 1) := by decide +kernel
theorem dX12_laysStretches_31 : decode cX12_laysStretches 31 = .ok (.iload_n 3, 1) := by decide +kernel
theorem dX12_laysStretches_32 : decode cX12_laysStretches 32 = .ok (.aload_n 0, 1) := by decide +kernel
theorem dX12_laysStretches_33 : decode cX12_laysStretches 33 = .ok (.getfield 132, 3) := by decide +kernel
theorem dX12_laysStretches_36 : decode cX12_laysStretches 36 = .ok (.if_icmp .ge 70, 3) := by decide +kernel
theorem dX12_laysStretches_39 : decode cX12_laysStretches 39 = .ok (.iconst 0, 1) := by decide +kernel
theorem dX12_laysStretches_40 : decode cX12_laysStretches 40 = .ok (.istore 4, 2) := by decide +kernel
theorem dX12_laysStretches_42 : decode cX12_laysStretches 42 = .ok (.iconst 0, 1) := by decide +kernel
theorem dX12_laysStretches_43 : decode cX12_laysStretches 43 = .ok (.istore 5, 2) := by decide +kernel
theorem dX12_laysStretches_45 : decode cX12_laysStretches 45 = .ok (.iload 5, 2) := by decide +kernel
theorem dX12_laysStretches_47 : decode cX12_laysStretches 47 = .ok (.aload_n 0, 1) := by decide +kernel
theorem dX12_laysStretches_48 : decode cX12_laysStretches 48 = .ok (.getfield 132, 3) := by decide +kernel
theorem dX12_laysStretches_51 : decode cX12_laysStretches 51 = .ok (.if_icmp .ge 33, 3) := by decide +kernel
theorem dX12_laysStretches_54 : decode cX12_laysStretches 54 = .ok (.iload 4, 2) := by decide +kernel
theorem dX12_laysStretches_56 : decode cX12_laysStretches 56 = .ok (.aload_n 0, 1) := by decide +kernel
theorem dX12_laysStretches_57 : decode cX12_laysStretches 57 = .ok (.iload_n 3, 1) := by decide +kernel
theorem dX12_laysStretches_58 : decode cX12_laysStretches 58 = .ok (.iload 5, 2) := by decide +kernel
theorem dX12_laysStretches_60 : decode cX12_laysStretches 60 = .ok (.iload_n 1, 1) := by decide +kernel
theorem dX12_laysStretches_61 : decode cX12_laysStretches 61 = .ok (.invokevirtual 227, 3) := by decide +kernel
theorem dX12_laysStretches_64 : decode cX12_laysStretches 64 = .ok (.ifCond .eq 10, 3) := by decide +kernel
theorem dX12_laysStretches_67 : decode cX12_laysStretches 67 = .ok (.iconst 1, 1) := by decide +kernel
theorem dX12_laysStretches_68 : decode cX12_laysStretches 68 = .ok (.iload 5, 2) := by decide +kernel
theorem dX12_laysStretches_70 : decode cX12_laysStretches 70 = .ok (.ishl, 1) := by decide +kernel
theorem dX12_laysStretches_71 : decode cX12_laysStretches 71 = .ok (.goto 4, 3) := by decide +kernel
theorem dX12_laysStretches_74 : decode cX12_laysStretches 74 = .ok (.iconst 0, 1) := by decide +kernel
theorem dX12_laysStretches_75 : decode cX12_laysStretches 75 = .ok (.ior, 1) := by decide +kernel
theorem dX12_laysStretches_76 : decode cX12_laysStretches 76 = .ok (.istore 4, 2) := by decide +kernel
theorem dX12_laysStretches_78 : decode cX12_laysStretches 78 = .ok (.iinc 5 1, 3) := by decide +kernel
theorem dX12_laysStretches_81 : decode cX12_laysStretches 81 = .ok (.goto (-36), 3) := by decide +kernel
theorem dX12_laysStretches_84 : decode cX12_laysStretches 84 = .ok (.aload_n 0, 1) := by decide +kernel
theorem dX12_laysStretches_85 : decode cX12_laysStretches 85 = .ok (.getfield 42, 3) := by decide +kernel
theorem dX12_laysStretches_88 : decode cX12_laysStretches 88 = .ok (.bipush 8, 2) := by decide +kernel
theorem dX12_laysStretches_90 : decode cX12_laysStretches 90 = .ok (.aload_n 0, 1) := by decide +kernel
theorem dX12_laysStretches_91 : decode cX12_laysStretches 91 = .ok (.getfield 220, 3) := by decide +kernel
theorem dX12_laysStretches_94 : decode cX12_laysStretches 94 = .ok (.imul, 1) := by decide +kernel
theorem dX12_laysStretches_95 : decode cX12_laysStretches 95 = .ok (.iload_n 3, 1) := by decide +kernel
theorem dX12_laysStretches_96 : decode cX12_laysStretches 96 = .ok (.iadd, 1) := by decide +kernel
theorem dX12_laysStretches_97 : decode cX12_laysStretches 97 = .ok (.iload 4, 2) := by decide +kernel
theorem dX12_laysStretches_99 : decode cX12_laysStretches 99 = .ok (.iastore, 1) := by decide +kernel
theorem dX12_laysStretches_100 : decode cX12_laysStretches 100 = .ok (.iinc 3 1, 3) := by decide +kernel
theorem dX12_laysStretches_103 : decode cX12_laysStretches 103 = .ok (.goto (-72), 3) := by decide +kernel
theorem dX12_laysStretches_106 : decode cX12_laysStretches 106 = .ok (.aload_n 0, 1) := by decide +kernel
theorem dX12_laysStretches_107 : decode cX12_laysStretches 107 = .ok (.dup, 1) := by decide +kernel
theorem dX12_laysStretches_108 : decode cX12_laysStretches 108 = .ok (.getfield 220, 3) := by decide +kernel
theorem dX12_laysStretches_111 : decode cX12_laysStretches 111 = .ok (.iconst 1, 1) := by decide +kernel
theorem dX12_laysStretches_112 : decode cX12_laysStretches 112 = .ok (.iadd, 1) := by decide +kernel
theorem dX12_laysStretches_113 : decode cX12_laysStretches 113 = .ok (.putfield 220, 3) := by decide +kernel
theorem dX12_laysStretches_116 : decode cX12_laysStretches 116 = .ok (.sipush 1000, 3) := by decide +kernel
theorem dX12_laysStretches_119 : decode cX12_laysStretches 119 = .ok (.istore_n 3, 1) := by decide +kernel
theorem dX12_laysStretches_120 : decode cX12_laysStretches 120 = .ok (.iconst 0, 1) := by decide +kernel
theorem dX12_laysStretches_121 : decode cX12_laysStretches 121 = .ok (.istore 4, 2) := by decide +kernel
theorem dX12_laysStretches_123 : decode cX12_laysStretches 123 = .ok (.iload 4, 2) := by decide +kernel
theorem dX12_laysStretches_125 : decode cX12_laysStretches 125 = .ok (.aload_n 0, 1) := by decide +kernel
theorem dX12_laysStretches_126 : decode cX12_laysStretches 126 = .ok (.bipush 103, 2) := by decide +kernel
theorem dX12_laysStretches_128 : decode cX12_laysStretches 128 = .ok (.invokevirtual 209, 3) := by decide +kernel
theorem dX12_laysStretches_131 : decode cX12_laysStretches 131 = .ok (.if_icmp .ge 39, 3) := by decide +kernel
theorem dX12_laysStretches_134 : decode cX12_laysStretches 134 = .ok (.aload_n 0, 1) := by decide +kernel
theorem dX12_laysStretches_135 : decode cX12_laysStretches 135 = .ok (.bipush 104, 2) := by decide +kernel
theorem dX12_laysStretches_137 : decode cX12_laysStretches 137 = .ok (.iconst 4, 1) := by decide +kernel
theorem dX12_laysStretches_138 : decode cX12_laysStretches 138 = .ok (.iload 4, 2) := by decide +kernel
theorem dX12_laysStretches_140 : decode cX12_laysStretches 140 = .ok (.imul, 1) := by decide +kernel
theorem dX12_laysStretches_141 : decode cX12_laysStretches 141 = .ok (.iadd, 1) := by decide +kernel
theorem dX12_laysStretches_142 : decode cX12_laysStretches 142 = .ok (.iconst 3, 1) := by decide +kernel
theorem dX12_laysStretches_143 : decode cX12_laysStretches 143 = .ok (.iadd, 1) := by decide +kernel
theorem dX12_laysStretches_144 : decode cX12_laysStretches 144 = .ok (.invokevirtual 209, 3) := by decide +kernel
theorem dX12_laysStretches_147 : decode cX12_laysStretches 147 = .ok (.istore 5, 2) := by decide +kernel
theorem dX12_laysStretches_149 : decode cX12_laysStretches 149 = .ok (.iload 5, 2) := by decide +kernel
theorem dX12_laysStretches_151 : decode cX12_laysStretches 151 = .ok (.iload_n 2, 1) := by decide +kernel
theorem dX12_laysStretches_152 : decode cX12_laysStretches 152 = .ok (.if_icmp .le 12, 3) := by decide +kernel
theorem dX12_laysStretches_155 : decode cX12_laysStretches 155 = .ok (.iload 5, 2) := by decide +kernel
theorem dX12_laysStretches_157 : decode cX12_laysStretches 157 = .ok (.iload_n 3, 1) := by decide +kernel
theorem dX12_laysStretches_158 : decode cX12_laysStretches 158 = .ok (.if_icmp .ge 6, 3) := by decide +kernel
theorem dX12_laysStretches_161 : decode cX12_laysStretches 161 = .ok (.iload 5, 2) := by decide +kernel
theorem dX12_laysStretches_163 : decode cX12_laysStretches 163 = .ok (.istore_n 3, 1) := by decide +kernel
theorem dX12_laysStretches_164 : decode cX12_laysStretches 164 = .ok (.iinc 4 1, 3) := by decide +kernel
theorem dX12_laysStretches_167 : decode cX12_laysStretches 167 = .ok (.goto (-44), 3) := by decide +kernel
theorem dX12_laysStretches_170 : decode cX12_laysStretches 170 = .ok (.iload_n 3, 1) := by decide +kernel
theorem dX12_laysStretches_171 : decode cX12_laysStretches 171 = .ok (.istore_n 2, 1) := by decide +kernel
theorem dX12_laysStretches_172 : decode cX12_laysStretches 172 = .ok (.goto (-165), 3) := by decide +kernel
theorem dX12_laysStretches_175 : decode cX12_laysStretches 175 = .ok (.aload_n 0, 1) := by decide +kernel
theorem dX12_laysStretches_176 : decode cX12_laysStretches 176 = .ok (.getfield 39, 3) := by decide +kernel
theorem dX12_laysStretches_179 : decode cX12_laysStretches 179 = .ok (.aload_n 0, 1) := by decide +kernel
theorem dX12_laysStretches_180 : decode cX12_laysStretches 180 = .ok (.getfield 220, 3) := by decide +kernel
theorem dX12_laysStretches_183 : decode cX12_laysStretches 183 = .ok (.sipush 1000, 3) := by decide +kernel
theorem dX12_laysStretches_186 : decode cX12_laysStretches 186 = .ok (.iastore, 1) := by decide +kernel
theorem dX12_laysStretches_187 : decode cX12_laysStretches 187 = .ok (.return_, 1) := by decide +kernel
theorem dX12_daysOf_0 : decode cX12_daysOf 0 = .ok (.iconst 0, 1) := by decide +kernel
theorem dX12_daysOf_1 : decode cX12_daysOf 1 = .ok (.istore 5, 2) := by decide +kernel
theorem dX12_daysOf_3 : decode cX12_daysOf 3 = .ok (.iconst 0, 1) := by decide +kernel
theorem dX12_daysOf_4 : decode cX12_daysOf 4 = .ok (.istore 6, 2) := by decide +kernel
theorem dX12_daysOf_6 : decode cX12_daysOf 6 = .ok (.iload 6, 2) := by decide +kernel
theorem dX12_daysOf_8 : decode cX12_daysOf 8 = .ok (.aload_n 0, 1) := by decide +kernel
theorem dX12_daysOf_9 : decode cX12_daysOf 9 = .ok (.getfield 220, 3) := by decide +kernel
theorem dX12_daysOf_12 : decode cX12_daysOf 12 = .ok (.if_icmp .ge 112, 3) := by decide +kernel
theorem dX12_daysOf_15 : decode cX12_daysOf 15 = .ok (.aload_n 0, 1) := by decide +kernel
theorem dX12_daysOf_16 : decode cX12_daysOf 16 = .ok (.getfield 42, 3) := by decide +kernel
theorem dX12_daysOf_19 : decode cX12_daysOf 19 = .ok (.bipush 8, 2) := by decide +kernel
theorem dX12_daysOf_21 : decode cX12_daysOf 21 = .ok (.iload 6, 2) := by decide +kernel
theorem dX12_daysOf_23 : decode cX12_daysOf 23 = .ok (.imul, 1) := by decide +kernel
theorem dX12_daysOf_24 : decode cX12_daysOf 24 = .ok (.iload_n 1, 1) := by decide +kernel
theorem dX12_daysOf_25 : decode cX12_daysOf 25 = .ok (.iadd, 1) := by decide +kernel
theorem dX12_daysOf_26 : decode cX12_daysOf 26 = .ok (.iaload, 1) := by decide +kernel
theorem dX12_daysOf_27 : decode cX12_daysOf 27 = .ok (.iload_n 2, 1) := by decide +kernel
theorem dX12_daysOf_28 : decode cX12_daysOf 28 = .ok (.ishr, 1) := by decide +kernel
theorem dX12_daysOf_29 : decode cX12_daysOf 29 = .ok (.iconst 1, 1) := by decide +kernel
theorem dX12_daysOf_30 : decode cX12_daysOf 30 = .ok (.iand, 1) := by decide +kernel
theorem dX12_daysOf_31 : decode cX12_daysOf 31 = .ok (.ifCond .ne 6, 3) := by decide +kernel
theorem dX12_daysOf_34 : decode cX12_daysOf 34 = .ok (.goto 84, 3) := by decide +kernel
theorem dX12_daysOf_37 : decode cX12_daysOf 37 = .ok (.aload_n 0, 1) := by decide +kernel
theorem dX12_daysOf_38 : decode cX12_daysOf 38 = .ok (.getfield 39, 3) := by decide +kernel
theorem dX12_daysOf_41 : decode cX12_daysOf 41 = .ok (.iload 6, 2) := by decide +kernel
theorem dX12_daysOf_43 : decode cX12_daysOf 43 = .ok (.iaload, 1) := by decide +kernel
theorem dX12_daysOf_44 : decode cX12_daysOf 44 = .ok (.iload_n 3, 1) := by decide +kernel
theorem dX12_daysOf_45 : decode cX12_daysOf 45 = .ok (.if_icmp .le 13, 3) := by decide +kernel
theorem dX12_daysOf_48 : decode cX12_daysOf 48 = .ok (.aload_n 0, 1) := by decide +kernel
theorem dX12_daysOf_49 : decode cX12_daysOf 49 = .ok (.getfield 39, 3) := by decide +kernel
theorem dX12_daysOf_52 : decode cX12_daysOf 52 = .ok (.iload 6, 2) := by decide +kernel
theorem dX12_daysOf_54 : decode cX12_daysOf 54 = .ok (.iaload, 1) := by decide +kernel
theorem dX12_daysOf_55 : decode cX12_daysOf 55 = .ok (.goto 4, 3) := by decide +kernel
theorem dX12_daysOf_58 : decode cX12_daysOf 58 = .ok (.iload_n 3, 1) := by decide +kernel
theorem dX12_daysOf_59 : decode cX12_daysOf 59 = .ok (.istore 7, 2) := by decide +kernel
theorem dX12_daysOf_61 : decode cX12_daysOf 61 = .ok (.aload_n 0, 1) := by decide +kernel
theorem dX12_daysOf_62 : decode cX12_daysOf 62 = .ok (.getfield 39, 3) := by decide +kernel
theorem dX12_daysOf_65 : decode cX12_daysOf 65 = .ok (.iload 6, 2) := by decide +kernel
theorem dX12_daysOf_67 : decode cX12_daysOf 67 = .ok (.iconst 1, 1) := by decide +kernel
theorem dX12_daysOf_68 : decode cX12_daysOf 68 = .ok (.iadd, 1) := by decide +kernel
theorem dX12_daysOf_69 : decode cX12_daysOf 69 = .ok (.iaload, 1) := by decide +kernel
theorem dX12_daysOf_70 : decode cX12_daysOf 70 = .ok (.iconst 1, 1) := by decide +kernel
theorem dX12_daysOf_71 : decode cX12_daysOf 71 = .ok (.isub, 1) := by decide +kernel
theorem dX12_daysOf_72 : decode cX12_daysOf 72 = .ok (.iload 4, 2) := by decide +kernel
theorem dX12_daysOf_74 : decode cX12_daysOf 74 = .ok (.if_icmp .ge 17, 3) := by decide +kernel
theorem dX12_daysOf_77 : decode cX12_daysOf 77 = .ok (.aload_n 0, 1) := by decide +kernel
theorem dX12_daysOf_78 : decode cX12_daysOf 78 = .ok (.getfield 39, 3) := by decide +kernel
theorem dX12_daysOf_81 : decode cX12_daysOf 81 = .ok (.iload 6, 2) := by decide +kernel
theorem dX12_daysOf_83 : decode cX12_daysOf 83 = .ok (.iconst 1, 1) := by decide +kernel
theorem dX12_daysOf_84 : decode cX12_daysOf 84 = .ok (.iadd, 1) := by decide +kernel
theorem dX12_daysOf_85 : decode cX12_daysOf 85 = .ok (.iaload, 1) := by decide +kernel
theorem dX12_daysOf_86 : decode cX12_daysOf 86 = .ok (.iconst 1, 1) := by decide +kernel
theorem dX12_daysOf_87 : decode cX12_daysOf 87 = .ok (.isub, 1) := by decide +kernel
theorem dX12_daysOf_88 : decode cX12_daysOf 88 = .ok (.goto 5, 3) := by decide +kernel
theorem dX12_daysOf_91 : decode cX12_daysOf 91 = .ok (.iload 4, 2) := by decide +kernel
theorem dX12_daysOf_93 : decode cX12_daysOf 93 = .ok (.istore 8, 2) := by decide +kernel
theorem dX12_daysOf_95 : decode cX12_daysOf 95 = .ok (.iload 5, 2) := by decide +kernel
theorem dX12_daysOf_97 : decode cX12_daysOf 97 = .ok (.iload 8, 2) := by decide +kernel
theorem dX12_daysOf_99 : decode cX12_daysOf 99 = .ok (.iload 7, 2) := by decide +kernel
theorem dX12_daysOf_101 : decode cX12_daysOf 101 = .ok (.if_icmp .lt 13, 3) := by decide +kernel
theorem dX12_daysOf_104 : decode cX12_daysOf 104 = .ok (.iload 8, 2) := by decide +kernel
theorem dX12_daysOf_106 : decode cX12_daysOf 106 = .ok (.iload 7, 2) := by decide +kernel
theorem dX12_daysOf_108 : decode cX12_daysOf 108 = .ok (.isub, 1) := by decide +kernel
theorem dX12_daysOf_109 : decode cX12_daysOf 109 = .ok (.iconst 1, 1) := by decide +kernel
theorem dX12_daysOf_110 : decode cX12_daysOf 110 = .ok (.iadd, 1) := by decide +kernel
theorem dX12_daysOf_111 : decode cX12_daysOf 111 = .ok (.goto 4, 3) := by decide +kernel
theorem dX12_daysOf_114 : decode cX12_daysOf 114 = .ok (.iconst 0, 1) := by decide +kernel
theorem dX12_daysOf_115 : decode cX12_daysOf 115 = .ok (.iadd, 1) := by decide +kernel
theorem dX12_daysOf_116 : decode cX12_daysOf 116 = .ok (.istore 5, 2) := by decide +kernel
theorem dX12_daysOf_118 : decode cX12_daysOf 118 = .ok (.iinc 6 1, 3) := by decide +kernel
theorem dX12_daysOf_121 : decode cX12_daysOf 121 = .ok (.goto (-115), 3) := by decide +kernel
theorem dX12_daysOf_124 : decode cX12_daysOf 124 = .ok (.iload 5, 2) := by decide +kernel
theorem dX12_daysOf_126 : decode cX12_daysOf 126 = .ok (.ireturn, 1) := by decide +kernel
theorem dX12_firstDay_0 : decode cX12_firstDay 0 = .ok (.iload_n 1, 1) := by decide +kernel
theorem dX12_firstDay_1 : decode cX12_firstDay 1 = .ok (.aload_n 0, 1) := by decide +kernel
theorem dX12_firstDay_2 : decode cX12_firstDay 2 = .ok (.getfield 45, 3) := by decide +kernel
theorem dX12_firstDay_5 : decode cX12_firstDay 5 = .ok (.if_icmp .ne 10, 3) := by decide +kernel
theorem dX12_firstDay_8 : decode cX12_firstDay 8 = .ok (.aload_n 0, 1) := by decide +kernel
theorem dX12_firstDay_9 : decode cX12_firstDay 9 = .ok (.getfield 230, 3) := by decide +kernel
theorem dX12_firstDay_12 : decode cX12_firstDay 12 = .ok (.goto 13, 3) := by decide +kernel
theorem dX12_firstDay_15 : decode cX12_firstDay 15 = .ok (.aload_n 0, 1) := by decide +kernel
theorem dX12_firstDay_16 : decode cX12_firstDay 16 = .ok (.getfield 23, 3) := by decide +kernel
theorem dX12_firstDay_19 : decode cX12_firstDay 19 = .ok (.iconst 4, 1) := by decide +kernel
theorem dX12_firstDay_20 : decode cX12_firstDay 20 = .ok (.iload_n 1, 1) := by decide +kernel
theorem dX12_firstDay_21 : decode cX12_firstDay 21 = .ok (.imul, 1) := by decide +kernel
theorem dX12_firstDay_22 : decode cX12_firstDay 22 = .ok (.iconst 1, 1) := by decide +kernel
theorem dX12_firstDay_23 : decode cX12_firstDay 23 = .ok (.iadd, 1) := by decide +kernel
theorem dX12_firstDay_24 : decode cX12_firstDay 24 = .ok (.iaload, 1) := by decide +kernel
theorem dX12_firstDay_25 : decode cX12_firstDay 25 = .ok (.ireturn, 1) := by decide +kernel
theorem dX12_lastDay_0 : decode cX12_lastDay 0 = .ok (.aload_n 0, 1) := by decide +kernel
theorem dX12_lastDay_1 : decode cX12_lastDay 1 = .ok (.getfield 23, 3) := by decide +kernel
theorem dX12_lastDay_4 : decode cX12_lastDay 4 = .ok (.iconst 4, 1) := by decide +kernel
theorem dX12_lastDay_5 : decode cX12_lastDay 5 = .ok (.iload_n 1, 1) := by decide +kernel
theorem dX12_lastDay_6 : decode cX12_lastDay 6 = .ok (.imul, 1) := by decide +kernel
theorem dX12_lastDay_7 : decode cX12_lastDay 7 = .ok (.iconst 2, 1) := by decide +kernel
theorem dX12_lastDay_8 : decode cX12_lastDay 8 = .ok (.iadd, 1) := by decide +kernel
theorem dX12_lastDay_9 : decode cX12_lastDay 9 = .ok (.iaload, 1) := by decide +kernel
theorem dX12_lastDay_10 : decode cX12_lastDay 10 = .ok (.ireturn, 1) := by decide +kernel
theorem dX12_sharedOf_0 : decode cX12_sharedOf 0 = .ok (.aload_n 0, 1) := by decide +kernel
theorem dX12_sharedOf_1 : decode cX12_sharedOf 1 = .ok (.iload_n 1, 1) := by decide +kernel
theorem dX12_sharedOf_2 : decode cX12_sharedOf 2 = .ok (.invokevirtual 233, 3) := by decide +kernel
theorem dX12_sharedOf_5 : decode cX12_sharedOf 5 = .ok (.aload_n 0, 1) := by decide +kernel
theorem dX12_sharedOf_6 : decode cX12_sharedOf 6 = .ok (.iload_n 2, 1) := by decide +kernel
theorem dX12_sharedOf_7 : decode cX12_sharedOf 7 = .ok (.invokevirtual 233, 3) := by decide +kernel
theorem dX12_sharedOf_10 : decode cX12_sharedOf 10 = .ok (.if_icmp .le 11, 3) := by decide +kernel
theorem dX12_sharedOf_13 : decode cX12_sharedOf 13 = .ok (.aload_n 0, 1) := by decide +kernel
theorem dX12_sharedOf_14 : decode cX12_sharedOf 14 = .ok (.iload_n 1, 1) := by decide +kernel
theorem dX12_sharedOf_15 : decode cX12_sharedOf 15 = .ok (.invokevirtual 233, 3) := by decide +kernel
theorem dX12_sharedOf_18 : decode cX12_sharedOf 18 = .ok (.goto 8, 3) := by decide +kernel
theorem dX12_sharedOf_21 : decode cX12_sharedOf 21 = .ok (.aload_n 0, 1) := by decide +kernel
theorem dX12_sharedOf_22 : decode cX12_sharedOf 22 = .ok (.iload_n 2, 1) := by decide +kernel
theorem dX12_sharedOf_23 : decode cX12_sharedOf 23 = .ok (.invokevirtual 233, 3) := by decide +kernel
theorem dX12_sharedOf_26 : decode cX12_sharedOf 26 = .ok (.istore_n 3, 1) := by decide +kernel
theorem dX12_sharedOf_27 : decode cX12_sharedOf 27 = .ok (.aload_n 0, 1) := by decide +kernel
theorem dX12_sharedOf_28 : decode cX12_sharedOf 28 = .ok (.iload_n 1, 1) := by decide +kernel
theorem dX12_sharedOf_29 : decode cX12_sharedOf 29 = .ok (.invokevirtual 236, 3) := by decide +kernel
theorem dX12_sharedOf_32 : decode cX12_sharedOf 32 = .ok (.aload_n 0, 1) := by decide +kernel
theorem dX12_sharedOf_33 : decode cX12_sharedOf 33 = .ok (.iload_n 2, 1) := by decide +kernel
theorem dX12_sharedOf_34 : decode cX12_sharedOf 34 = .ok (.invokevirtual 236, 3) := by decide +kernel
theorem dX12_sharedOf_37 : decode cX12_sharedOf 37 = .ok (.if_icmp .ge 11, 3) := by decide +kernel
theorem dX12_sharedOf_40 : decode cX12_sharedOf 40 = .ok (.aload_n 0, 1) := by decide +kernel
theorem dX12_sharedOf_41 : decode cX12_sharedOf 41 = .ok (.iload_n 1, 1) := by decide +kernel
theorem dX12_sharedOf_42 : decode cX12_sharedOf 42 = .ok (.invokevirtual 236, 3) := by decide +kernel
theorem dX12_sharedOf_45 : decode cX12_sharedOf 45 = .ok (.goto 8, 3) := by decide +kernel
theorem dX12_sharedOf_48 : decode cX12_sharedOf 48 = .ok (.aload_n 0, 1) := by decide +kernel
theorem dX12_sharedOf_49 : decode cX12_sharedOf 49 = .ok (.iload_n 2, 1) := by decide +kernel
theorem dX12_sharedOf_50 : decode cX12_sharedOf 50 = .ok (.invokevirtual 236, 3) := by decide +kernel
theorem dX12_sharedOf_53 : decode cX12_sharedOf 53 = .ok (.istore 4, 2) := by decide +kernel
theorem dX12_sharedOf_55 : decode cX12_sharedOf 55 = .ok (.aload_n 0, 1) := by decide +kernel
theorem dX12_sharedOf_56 : decode cX12_sharedOf 56 = .ok (.aload_n 0, 1) := by decide +kernel
theorem dX12_sharedOf_57 : decode cX12_sharedOf 57 = .ok (.iload_n 1, 1) := by decide +kernel
theorem dX12_sharedOf_58 : decode cX12_sharedOf 58 = .ok (.invokevirtual 239, 3) := by decide +kernel
theorem dX12_sharedOf_61 : decode cX12_sharedOf 61 = .ok (.aload_n 0, 1) := by decide +kernel
theorem dX12_sharedOf_62 : decode cX12_sharedOf 62 = .ok (.iload_n 2, 1) := by decide +kernel
theorem dX12_sharedOf_63 : decode cX12_sharedOf 63 = .ok (.invokevirtual 239, 3) := by decide +kernel
theorem dX12_sharedOf_66 : decode cX12_sharedOf 66 = .ok (.iload_n 3, 1) := by decide +kernel
theorem dX12_sharedOf_67 : decode cX12_sharedOf 67 = .ok (.iload 4, 2) := by decide +kernel
theorem dX12_sharedOf_69 : decode cX12_sharedOf 69 = .ok (.invokevirtual 242, 3) := by decide +kernel
theorem dX12_sharedOf_72 : decode cX12_sharedOf 72 = .ok (.ireturn, 1) := by decide +kernel
theorem dX12_isCarry_0 : decode cX12_isCarry 0 = .ok (.aload_n 0, 1) := by decide +kernel
theorem dX12_isCarry_1 : decode cX12_isCarry 1 = .ok (.iload_n 1, 1) := by decide +kernel
theorem dX12_isCarry_2 : decode cX12_isCarry 2 = .ok (.invokevirtual 239, 3) := by decide +kernel
theorem dX12_isCarry_5 : decode cX12_isCarry 5 = .ok (.aload_n 0, 1) := by decide +kernel
theorem dX12_isCarry_6 : decode cX12_isCarry 6 = .ok (.iload_n 2, 1) := by decide +kernel
theorem dX12_isCarry_7 : decode cX12_isCarry 7 = .ok (.invokevirtual 239, 3) := by decide +kernel
theorem dX12_isCarry_10 : decode cX12_isCarry 10 = .ok (.if_icmp .ne 7, 3) := by decide +kernel
theorem dX12_isCarry_13 : decode cX12_isCarry 13 = .ok (.iconst 1, 1) := by decide +kernel
theorem dX12_isCarry_14 : decode cX12_isCarry 14 = .ok (.goto 4, 3) := by decide +kernel
theorem dX12_isCarry_17 : decode cX12_isCarry 17 = .ok (.iconst 0, 1) := by decide +kernel
theorem dX12_isCarry_18 : decode cX12_isCarry 18 = .ok (.ireturn, 1) := by decide +kernel
theorem dX12_isLink_0 : decode cX12_isLink 0 = .ok (.aload_n 0, 1) := by decide +kernel
theorem dX12_isLink_1 : decode cX12_isLink 1 = .ok (.iload_n 1, 1) := by decide +kernel
theorem dX12_isLink_2 : decode cX12_isLink 2 = .ok (.invokevirtual 246, 3) := by decide +kernel
theorem dX12_isLink_5 : decode cX12_isLink 5 = .ok (.ifCond .eq 61, 3) := by decide +kernel
theorem dX12_isLink_8 : decode cX12_isLink 8 = .ok (.aload_n 0, 1) := by decide +kernel
theorem dX12_isLink_9 : decode cX12_isLink 9 = .ok (.iload_n 2, 1) := by decide +kernel
theorem dX12_isLink_10 : decode cX12_isLink 10 = .ok (.invokevirtual 246, 3) := by decide +kernel
theorem dX12_isLink_13 : decode cX12_isLink 13 = .ok (.ifCond .eq 53, 3) := by decide +kernel
theorem dX12_isLink_16 : decode cX12_isLink 16 = .ok (.aload_n 0, 1) := by decide +kernel
theorem dX12_isLink_17 : decode cX12_isLink 17 = .ok (.iload_n 1, 1) := by decide +kernel
theorem dX12_isLink_18 : decode cX12_isLink 18 = .ok (.invokevirtual 249, 3) := by decide +kernel
theorem dX12_isLink_21 : decode cX12_isLink 21 = .ok (.ifCond .ge 45, 3) := by decide +kernel
theorem dX12_isLink_24 : decode cX12_isLink 24 = .ok (.aload_n 0, 1) := by decide +kernel
theorem dX12_isLink_25 : decode cX12_isLink 25 = .ok (.iload_n 2, 1) := by decide +kernel
theorem dX12_isLink_26 : decode cX12_isLink 26 = .ok (.invokevirtual 249, 3) := by decide +kernel
theorem dX12_isLink_29 : decode cX12_isLink 29 = .ok (.ifCond .le 37, 3) := by decide +kernel
theorem dX12_isLink_32 : decode cX12_isLink 32 = .ok (.aload_n 0, 1) := by decide +kernel
theorem dX12_isLink_33 : decode cX12_isLink 33 = .ok (.iload_n 1, 1) := by decide +kernel
theorem dX12_isLink_34 : decode cX12_isLink 34 = .ok (.iload_n 2, 1) := by decide +kernel
theorem dX12_isLink_35 : decode cX12_isLink 35 = .ok (.invokevirtual 252, 3) := by decide +kernel
theorem dX12_isLink_38 : decode cX12_isLink 38 = .ok (.ifCond .eq 24, 3) := by decide +kernel
theorem dX12_isLink_41 : decode cX12_isLink 41 = .ok (.aload_n 0, 1) := by decide +kernel
theorem dX12_isLink_42 : decode cX12_isLink 42 = .ok (.getfield 145, 3) := by decide +kernel
theorem dX12_isLink_45 : decode cX12_isLink 45 = .ok (.iconst 1, 1) := by decide +kernel
theorem dX12_isLink_46 : decode cX12_isLink 46 = .ok (.if_icmp .ne 20, 3) := by decide +kernel
theorem dX12_isLink_49 : decode cX12_isLink 49 = .ok (.aload_n 0, 1) := by decide +kernel
theorem dX12_isLink_50 : decode cX12_isLink 50 = .ok (.iload_n 2, 1) := by decide +kernel
theorem dX12_isLink_51 : decode cX12_isLink 51 = .ok (.invokevirtual 233, 3) := by decide +kernel
theorem dX12_isLink_54 : decode cX12_isLink 54 = .ok (.aload_n 0, 1) := by decide +kernel
theorem dX12_isLink_55 : decode cX12_isLink 55 = .ok (.iload_n 1, 1) := by decide +kernel
theorem dX12_isLink_56 : decode cX12_isLink 56 = .ok (.invokevirtual 236, 3) := by decide +kernel
theorem dX12_isLink_59 : decode cX12_isLink 59 = .ok (.if_icmp .le 7, 3) := by decide +kernel
theorem dX12_isLink_62 : decode cX12_isLink 62 = .ok (.iconst 1, 1) := by decide +kernel
theorem dX12_isLink_63 : decode cX12_isLink 63 = .ok (.goto 4, 3) := by decide +kernel
theorem dX12_isLink_66 : decode cX12_isLink 66 = .ok (.iconst 0, 1) := by decide +kernel
theorem dX12_isLink_67 : decode cX12_isLink 67 = .ok (.ireturn, 1) := by decide +kernel
theorem dX12_boundOf_0 : decode cX12_boundOf 0 = .ok (.aload_n 0, 1) := by decide +kernel
theorem dX12_boundOf_1 : decode cX12_boundOf 1 = .ok (.iload_n 1, 1) := by decide +kernel
theorem dX12_boundOf_2 : decode cX12_boundOf 2 = .ok (.iload_n 2, 1) := by decide +kernel
theorem dX12_boundOf_3 : decode cX12_boundOf 3 = .ok (.invokevirtual 252, 3) := by decide +kernel
theorem dX12_boundOf_6 : decode cX12_boundOf 6 = .ok (.ifCond .eq 32, 3) := by decide +kernel
theorem dX12_boundOf_9 : decode cX12_boundOf 9 = .ok (.aload_n 0, 1) := by decide +kernel
theorem dX12_boundOf_10 : decode cX12_boundOf 10 = .ok (.iload_n 1, 1) := by decide +kernel
theorem dX12_boundOf_11 : decode cX12_boundOf 11 = .ok (.invokevirtual 249, 3) := by decide +kernel
theorem dX12_boundOf_14 : decode cX12_boundOf 14 = .ok (.ineg, 1) := by decide +kernel
theorem dX12_boundOf_15 : decode cX12_boundOf 15 = .ok (.aload_n 0, 1) := by decide +kernel
theorem dX12_boundOf_16 : decode cX12_boundOf 16 = .ok (.iload_n 2, 1) := by decide +kernel
theorem dX12_boundOf_17 : decode cX12_boundOf 17 = .ok (.invokevirtual 249, 3) := by decide +kernel
theorem dX12_boundOf_20 : decode cX12_boundOf 20 = .ok (.if_icmp .ge 12, 3) := by decide +kernel
theorem dX12_boundOf_23 : decode cX12_boundOf 23 = .ok (.aload_n 0, 1) := by decide +kernel
theorem dX12_boundOf_24 : decode cX12_boundOf 24 = .ok (.iload_n 1, 1) := by decide +kernel
theorem dX12_boundOf_25 : decode cX12_boundOf 25 = .ok (.invokevirtual 249, 3) := by decide +kernel
theorem dX12_boundOf_28 : decode cX12_boundOf 28 = .ok (.ineg, 1) := by decide +kernel
theorem dX12_boundOf_29 : decode cX12_boundOf 29 = .ok (.goto 8, 3) := by decide +kernel
theorem dX12_boundOf_32 : decode cX12_boundOf 32 = .ok (.aload_n 0, 1) := by decide +kernel
theorem dX12_boundOf_33 : decode cX12_boundOf 33 = .ok (.iload_n 2, 1) := by decide +kernel
theorem dX12_boundOf_34 : decode cX12_boundOf 34 = .ok (.invokevirtual 249, 3) := by decide +kernel
theorem dX12_boundOf_37 : decode cX12_boundOf 37 = .ok (.ireturn, 1) := by decide +kernel
theorem dX12_boundOf_38 : decode cX12_boundOf 38 = .ok (.aload_n 0, 1) := by decide +kernel
theorem dX12_boundOf_39 : decode cX12_boundOf 39 = .ok (.iload_n 1, 1) := by decide +kernel
theorem dX12_boundOf_40 : decode cX12_boundOf 40 = .ok (.iload_n 2, 1) := by decide +kernel
theorem dX12_boundOf_41 : decode cX12_boundOf 41 = .ok (.invokevirtual 255, 3) := by decide +kernel
theorem dX12_boundOf_44 : decode cX12_boundOf 44 = .ok (.istore_n 3, 1) := by decide +kernel
theorem dX12_boundOf_45 : decode cX12_boundOf 45 = .ok (.aload_n 0, 1) := by decide +kernel
theorem dX12_boundOf_46 : decode cX12_boundOf 46 = .ok (.iload_n 1, 1) := by decide +kernel
theorem dX12_boundOf_47 : decode cX12_boundOf 47 = .ok (.invokevirtual 249, 3) := by decide +kernel
theorem dX12_boundOf_50 : decode cX12_boundOf 50 = .ok (.i2l, 1) := by decide +kernel
theorem dX12_boundOf_51 : decode cX12_boundOf 51 = .ok (.lneg, 1) := by decide +kernel
theorem dX12_boundOf_52 : decode cX12_boundOf 52 = .ok (.iload_n 3, 1) := by decide +kernel
theorem dX12_boundOf_53 : decode cX12_boundOf 53 = .ok (.i2l, 1) := by decide +kernel
theorem dX12_boundOf_54 : decode cX12_boundOf 54 = .ok (.lmul, 1) := by decide +kernel
theorem dX12_boundOf_55 : decode cX12_boundOf 55 = .ok (.aload_n 0, 1) := by decide +kernel
theorem dX12_boundOf_56 : decode cX12_boundOf 56 = .ok (.iload_n 1, 1) := by decide +kernel
theorem dX12_boundOf_57 : decode cX12_boundOf 57 = .ok (.invokevirtual 236, 3) := by decide +kernel
theorem dX12_boundOf_60 : decode cX12_boundOf 60 = .ok (.aload_n 0, 1) := by decide +kernel
theorem dX12_boundOf_61 : decode cX12_boundOf 61 = .ok (.iload_n 1, 1) := by decide +kernel
theorem dX12_boundOf_62 : decode cX12_boundOf 62 = .ok (.invokevirtual 233, 3) := by decide +kernel
theorem dX12_boundOf_65 : decode cX12_boundOf 65 = .ok (.isub, 1) := by decide +kernel
theorem dX12_boundOf_66 : decode cX12_boundOf 66 = .ok (.iconst 1, 1) := by decide +kernel
theorem dX12_boundOf_67 : decode cX12_boundOf 67 = .ok (.iadd, 1) := by decide +kernel
theorem dX12_boundOf_68 : decode cX12_boundOf 68 = .ok (.i2l, 1) := by decide +kernel
theorem dX12_boundOf_69 : decode cX12_boundOf 69 = .ok (.ldiv, 1) := by decide +kernel
theorem dX12_boundOf_70 : decode cX12_boundOf 70 = .ok (.lstore 4, 2) := by decide +kernel
theorem dX12_boundOf_72 : decode cX12_boundOf 72 = .ok (.aload_n 0, 1) := by decide +kernel
theorem dX12_boundOf_73 : decode cX12_boundOf 73 = .ok (.iload_n 2, 1) := by decide +kernel
theorem dX12_boundOf_74 : decode cX12_boundOf 74 = .ok (.invokevirtual 249, 3) := by decide +kernel
theorem dX12_boundOf_77 : decode cX12_boundOf 77 = .ok (.i2l, 1) := by decide +kernel
theorem dX12_boundOf_78 : decode cX12_boundOf 78 = .ok (.iload_n 3, 1) := by decide +kernel
theorem dX12_boundOf_79 : decode cX12_boundOf 79 = .ok (.i2l, 1) := by decide +kernel
theorem dX12_boundOf_80 : decode cX12_boundOf 80 = .ok (.lmul, 1) := by decide +kernel
theorem dX12_boundOf_81 : decode cX12_boundOf 81 = .ok (.aload_n 0, 1) := by decide +kernel
theorem dX12_boundOf_82 : decode cX12_boundOf 82 = .ok (.iload_n 2, 1) := by decide +kernel
theorem dX12_boundOf_83 : decode cX12_boundOf 83 = .ok (.invokevirtual 236, 3) := by decide +kernel
theorem dX12_boundOf_86 : decode cX12_boundOf 86 = .ok (.aload_n 0, 1) := by decide +kernel
theorem dX12_boundOf_87 : decode cX12_boundOf 87 = .ok (.iload_n 2, 1) := by decide +kernel
theorem dX12_boundOf_88 : decode cX12_boundOf 88 = .ok (.invokevirtual 233, 3) := by decide +kernel
theorem dX12_boundOf_91 : decode cX12_boundOf 91 = .ok (.isub, 1) := by decide +kernel
theorem dX12_boundOf_92 : decode cX12_boundOf 92 = .ok (.iconst 1, 1) := by decide +kernel
theorem dX12_boundOf_93 : decode cX12_boundOf 93 = .ok (.iadd, 1) := by decide +kernel
theorem dX12_boundOf_94 : decode cX12_boundOf 94 = .ok (.i2l, 1) := by decide +kernel
theorem dX12_boundOf_95 : decode cX12_boundOf 95 = .ok (.ldiv, 1) := by decide +kernel
theorem dX12_boundOf_96 : decode cX12_boundOf 96 = .ok (.lstore 6, 2) := by decide +kernel
theorem dX12_boundOf_98 : decode cX12_boundOf 98 = .ok (.lload 4, 2) := by decide +kernel
theorem dX12_boundOf_100 : decode cX12_boundOf 100 = .ok (.lload 6, 2) := by decide +kernel
theorem dX12_boundOf_102 : decode cX12_boundOf 102 = .ok (.lcmp, 1) := by decide +kernel
theorem dX12_boundOf_103 : decode cX12_boundOf 103 = .ok (.ifCond .ge 8, 3) := by decide +kernel
theorem dX12_boundOf_106 : decode cX12_boundOf 106 = .ok (.lload 4, 2) := by decide +kernel
theorem dX12_boundOf_108 : decode cX12_boundOf 108 = .ok (.goto 5, 3) := by decide +kernel
theorem dX12_boundOf_111 : decode cX12_boundOf 111 = .ok (.lload 6, 2) := by decide +kernel
theorem dX12_boundOf_113 : decode cX12_boundOf 113 = .ok (.l2i, 1) := by decide +kernel
theorem dX12_boundOf_114 : decode cX12_boundOf 114 = .ok (.ireturn, 1) := by decide +kernel
theorem dX12_priceOf_0 : decode cX12_priceOf 0 = .ok (.aload_n 0, 1) := by decide +kernel
theorem dX12_priceOf_1 : decode cX12_priceOf 1 = .ok (.iload_n 1, 1) := by decide +kernel
theorem dX12_priceOf_2 : decode cX12_priceOf 2 = .ok (.iload_n 2, 1) := by decide +kernel
theorem dX12_priceOf_3 : decode cX12_priceOf 3 = .ok (.invokevirtual 252, 3) := by decide +kernel
theorem dX12_priceOf_6 : decode cX12_priceOf 6 = .ok (.ifCond .eq 5, 3) := by decide +kernel
theorem dX12_priceOf_9 : decode cX12_priceOf 9 = .ok (.iconst 0, 1) := by decide +kernel
theorem dX12_priceOf_10 : decode cX12_priceOf 10 = .ok (.ireturn, 1) := by decide +kernel
theorem dX12_priceOf_11 : decode cX12_priceOf 11 = .ok (.aload_n 0, 1) := by decide +kernel
theorem dX12_priceOf_12 : decode cX12_priceOf 12 = .ok (.getfield 20, 3) := by decide +kernel
theorem dX12_priceOf_15 : decode cX12_priceOf 15 = .ok (.iconst 3, 1) := by decide +kernel
theorem dX12_priceOf_16 : decode cX12_priceOf 16 = .ok (.aload_n 0, 1) := by decide +kernel
theorem dX12_priceOf_17 : decode cX12_priceOf 17 = .ok (.iload_n 1, 1) := by decide +kernel
theorem dX12_priceOf_18 : decode cX12_priceOf 18 = .ok (.invokevirtual 239, 3) := by decide +kernel
theorem dX12_priceOf_21 : decode cX12_priceOf 21 = .ok (.imul, 1) := by decide +kernel
theorem dX12_priceOf_22 : decode cX12_priceOf 22 = .ok (.iconst 1, 1) := by decide +kernel
theorem dX12_priceOf_23 : decode cX12_priceOf 23 = .ok (.iadd, 1) := by decide +kernel
theorem dX12_priceOf_24 : decode cX12_priceOf 24 = .ok (.iaload, 1) := by decide +kernel
theorem dX12_priceOf_25 : decode cX12_priceOf 25 = .ok (.istore_n 3, 1) := by decide +kernel
theorem dX12_priceOf_26 : decode cX12_priceOf 26 = .ok (.aload_n 0, 1) := by decide +kernel
theorem dX12_priceOf_27 : decode cX12_priceOf 27 = .ok (.getfield 20, 3) := by decide +kernel
theorem dX12_priceOf_30 : decode cX12_priceOf 30 = .ok (.iconst 3, 1) := by decide +kernel
theorem dX12_priceOf_31 : decode cX12_priceOf 31 = .ok (.aload_n 0, 1) := by decide +kernel
theorem dX12_priceOf_32 : decode cX12_priceOf 32 = .ok (.iload_n 2, 1) := by decide +kernel
theorem dX12_priceOf_33 : decode cX12_priceOf 33 = .ok (.invokevirtual 239, 3) := by decide +kernel
theorem dX12_priceOf_36 : decode cX12_priceOf 36 = .ok (.imul, 1) := by decide +kernel
theorem dX12_priceOf_37 : decode cX12_priceOf 37 = .ok (.iconst 2, 1) := by decide +kernel
theorem dX12_priceOf_38 : decode cX12_priceOf 38 = .ok (.iadd, 1) := by decide +kernel
theorem dX12_priceOf_39 : decode cX12_priceOf 39 = .ok (.iaload, 1) := by decide +kernel
theorem dX12_priceOf_40 : decode cX12_priceOf 40 = .ok (.istore 4, 2) := by decide +kernel
theorem dX12_priceOf_42 : decode cX12_priceOf 42 = .ok (.aload_n 0, 1) := by decide +kernel
theorem dX12_priceOf_43 : decode cX12_priceOf 43 = .ok (.getfield 29, 3) := by decide +kernel
theorem dX12_priceOf_46 : decode cX12_priceOf 46 = .ok (.iconst 1, 1) := by decide +kernel
theorem dX12_priceOf_47 : decode cX12_priceOf 47 = .ok (.iaload, 1) := by decide +kernel
theorem dX12_priceOf_48 : decode cX12_priceOf 48 = .ok (.ifCond .ne 5, 3) := by decide +kernel
theorem dX12_priceOf_51 : decode cX12_priceOf 51 = .ok (.iload_n 3, 1) := by decide +kernel
theorem dX12_priceOf_52 : decode cX12_priceOf 52 = .ok (.ireturn, 1) := by decide +kernel
theorem dX12_priceOf_53 : decode cX12_priceOf 53 = .ok (.aload_n 0, 1) := by decide +kernel
theorem dX12_priceOf_54 : decode cX12_priceOf 54 = .ok (.getfield 29, 3) := by decide +kernel
theorem dX12_priceOf_57 : decode cX12_priceOf 57 = .ok (.iconst 1, 1) := by decide +kernel
theorem dX12_priceOf_58 : decode cX12_priceOf 58 = .ok (.iaload, 1) := by decide +kernel
theorem dX12_priceOf_59 : decode cX12_priceOf 59 = .ok (.iconst 1, 1) := by decide +kernel
theorem dX12_priceOf_60 : decode cX12_priceOf 60 = .ok (.if_icmp .ne 13, 3) := by decide +kernel
theorem dX12_priceOf_63 : decode cX12_priceOf 63 = .ok (.iload_n 3, 1) := by decide +kernel
theorem dX12_priceOf_64 : decode cX12_priceOf 64 = .ok (.bipush 99, 2) := by decide +kernel
theorem dX12_priceOf_66 : decode cX12_priceOf 66 = .ok (.iadd, 1) := by decide +kernel
theorem dX12_priceOf_67 : decode cX12_priceOf 67 = .ok (.iload 4, 2) := by decide +kernel
theorem dX12_priceOf_69 : decode cX12_priceOf 69 = .ok (.isub, 1) := by decide +kernel
theorem dX12_priceOf_70 : decode cX12_priceOf 70 = .ok (.goto 20, 3) := by decide +kernel
theorem dX12_priceOf_73 : decode cX12_priceOf 73 = .ok (.iload_n 3, 1) := by decide +kernel
theorem dX12_priceOf_74 : decode cX12_priceOf 74 = .ok (.iload 4, 2) := by decide +kernel
theorem dX12_priceOf_76 : decode cX12_priceOf 76 = .ok (.if_icmp .ge 10, 3) := by decide +kernel
theorem dX12_priceOf_79 : decode cX12_priceOf 79 = .ok (.iload 4, 2) := by decide +kernel
theorem dX12_priceOf_81 : decode cX12_priceOf 81 = .ok (.iload_n 3, 1) := by decide +kernel
theorem dX12_priceOf_82 : decode cX12_priceOf 82 = .ok (.isub, 1) := by decide +kernel
theorem dX12_priceOf_83 : decode cX12_priceOf 83 = .ok (.goto 7, 3) := by decide +kernel
theorem dX12_priceOf_86 : decode cX12_priceOf 86 = .ok (.iload_n 3, 1) := by decide +kernel
theorem dX12_priceOf_87 : decode cX12_priceOf 87 = .ok (.iload 4, 2) := by decide +kernel
theorem dX12_priceOf_89 : decode cX12_priceOf 89 = .ok (.isub, 1) := by decide +kernel
theorem dX12_priceOf_90 : decode cX12_priceOf 90 = .ok (.ireturn, 1) := by decide +kernel
theorem dX12_claimedOf_0 : decode cX12_claimedOf 0 = .ok (.iconst 0, 1) := by decide +kernel
theorem dX12_claimedOf_1 : decode cX12_claimedOf 1 = .ok (.istore_n 2, 1) := by decide +kernel
theorem dX12_claimedOf_2 : decode cX12_claimedOf 2 = .ok (.iconst 0, 1) := by decide +kernel
theorem dX12_claimedOf_3 : decode cX12_claimedOf 3 = .ok (.istore_n 3, 1) := by decide +kernel
theorem dX12_claimedOf_4 : decode cX12_claimedOf 4 = .ok (.iload_n 3, 1) := by decide +kernel
theorem dX12_claimedOf_5 : decode cX12_claimedOf 5 = .ok (.aload_n 0, 1) := by decide +kernel
theorem dX12_claimedOf_6 : decode cX12_claimedOf 6 = .ok (.iconst 0, 1) := by decide +kernel
theorem dX12_claimedOf_7 : decode cX12_claimedOf 7 = .ok (.invokevirtual 209, 3) := by decide +kernel
theorem dX12_claimedOf_10 : decode cX12_claimedOf 10 = .ok (.if_icmp .ge 53, 3) := by decide +kernel
theorem dX12_claimedOf_13 : decode cX12_claimedOf 13 = .ok (.iconst 1, 1) := by decide +kernel
theorem dX12_claimedOf_14 : decode cX12_claimedOf 14 = .ok (.iconst 3, 1) := by decide +kernel
theorem dX12_claimedOf_15 : decode cX12_claimedOf 15 = .ok (.iload_n 3, 1) := by decide +kernel
theorem dX12_claimedOf_16 : decode cX12_claimedOf 16 = .ok (.imul, 1) := by decide +kernel
theorem dX12_claimedOf_17 : decode cX12_claimedOf 17 = .ok (.iadd, 1) := by decide +kernel
theorem dX12_claimedOf_18 : decode cX12_claimedOf 18 = .ok (.istore 4, 2) := by decide +kernel
theorem dX12_claimedOf_20 : decode cX12_claimedOf 20 = .ok (.iload_n 2, 1) := by decide +kernel
theorem dX12_claimedOf_21 : decode cX12_claimedOf 21 = .ok (.aload_n 0, 1) := by decide +kernel
theorem dX12_claimedOf_22 : decode cX12_claimedOf 22 = .ok (.iload 4, 2) := by decide +kernel
theorem dX12_claimedOf_24 : decode cX12_claimedOf 24 = .ok (.invokevirtual 209, 3) := by decide +kernel
theorem dX12_claimedOf_27 : decode cX12_claimedOf 27 = .ok (.iload_n 1, 1) := by decide +kernel
theorem dX12_claimedOf_28 : decode cX12_claimedOf 28 = .ok (.if_icmp .eq 15, 3) := by decide +kernel
theorem dX12_claimedOf_31 : decode cX12_claimedOf 31 = .ok (.aload_n 0, 1) := by decide +kernel
theorem dX12_claimedOf_32 : decode cX12_claimedOf 32 = .ok (.iload 4, 2) := by decide +kernel
theorem dX12_claimedOf_34 : decode cX12_claimedOf 34 = .ok (.iconst 1, 1) := by decide +kernel
theorem dX12_claimedOf_35 : decode cX12_claimedOf 35 = .ok (.iadd, 1) := by decide +kernel
theorem dX12_claimedOf_36 : decode cX12_claimedOf 36 = .ok (.invokevirtual 209, 3) := by decide +kernel
theorem dX12_claimedOf_39 : decode cX12_claimedOf 39 = .ok (.iload_n 1, 1) := by decide +kernel
theorem dX12_claimedOf_40 : decode cX12_claimedOf 40 = .ok (.if_icmp .ne 14, 3) := by decide +kernel
theorem dX12_claimedOf_43 : decode cX12_claimedOf 43 = .ok (.aload_n 0, 1) := by decide +kernel
theorem dX12_claimedOf_44 : decode cX12_claimedOf 44 = .ok (.iload 4, 2) := by decide +kernel
theorem dX12_claimedOf_46 : decode cX12_claimedOf 46 = .ok (.iconst 2, 1) := by decide +kernel
theorem dX12_claimedOf_47 : decode cX12_claimedOf 47 = .ok (.iadd, 1) := by decide +kernel
theorem dX12_claimedOf_48 : decode cX12_claimedOf 48 = .ok (.invokevirtual 209, 3) := by decide +kernel
theorem dX12_claimedOf_51 : decode cX12_claimedOf 51 = .ok (.goto 4, 3) := by decide +kernel
theorem dX12_claimedOf_54 : decode cX12_claimedOf 54 = .ok (.iconst 0, 1) := by decide +kernel
theorem dX12_claimedOf_55 : decode cX12_claimedOf 55 = .ok (.iadd, 1) := by decide +kernel
theorem dX12_claimedOf_56 : decode cX12_claimedOf 56 = .ok (.istore_n 2, 1) := by decide +kernel
theorem dX12_claimedOf_57 : decode cX12_claimedOf 57 = .ok (.iinc 3 1, 3) := by decide +kernel
theorem dX12_claimedOf_60 : decode cX12_claimedOf 60 = .ok (.goto (-56), 3) := by decide +kernel
theorem dX12_claimedOf_63 : decode cX12_claimedOf 63 = .ok (.iload_n 2, 1) := by decide +kernel
theorem dX12_claimedOf_64 : decode cX12_claimedOf 64 = .ok (.ireturn, 1) := by decide +kernel
theorem dX12_claimedBy_0 : decode cX12_claimedBy 0 = .ok (.iconst 0, 1) := by decide +kernel
theorem dX12_claimedBy_1 : decode cX12_claimedBy 1 = .ok (.istore_n 3, 1) := by decide +kernel
theorem dX12_claimedBy_2 : decode cX12_claimedBy 2 = .ok (.iconst 0, 1) := by decide +kernel
theorem dX12_claimedBy_3 : decode cX12_claimedBy 3 = .ok (.istore 4, 2) := by decide +kernel
theorem dX12_claimedBy_5 : decode cX12_claimedBy 5 = .ok (.iload 4, 2) := by decide +kernel
theorem dX12_claimedBy_7 : decode cX12_claimedBy 7 = .ok (.aload_n 0, 1) := by decide +kernel
theorem dX12_claimedBy_8 : decode cX12_claimedBy 8 = .ok (.iconst 0, 1) := by decide +kernel
theorem dX12_claimedBy_9 : decode cX12_claimedBy 9 = .ok (.invokevirtual 209, 3) := by decide +kernel
theorem dX12_claimedBy_12 : decode cX12_claimedBy 12 = .ok (.if_icmp .ge 58, 3) := by decide +kernel
theorem dX12_claimedBy_15 : decode cX12_claimedBy 15 = .ok (.iload_n 3, 1) := by decide +kernel
theorem dX12_claimedBy_16 : decode cX12_claimedBy 16 = .ok (.aload_n 0, 1) := by decide +kernel
theorem dX12_claimedBy_17 : decode cX12_claimedBy 17 = .ok (.iconst 1, 1) := by decide +kernel
theorem dX12_claimedBy_18 : decode cX12_claimedBy 18 = .ok (.iconst 3, 1) := by decide +kernel
theorem dX12_claimedBy_19 : decode cX12_claimedBy 19 = .ok (.iload 4, 2) := by decide +kernel
theorem dX12_claimedBy_21 : decode cX12_claimedBy 21 = .ok (.imul, 1) := by decide +kernel
theorem dX12_claimedBy_22 : decode cX12_claimedBy 22 = .ok (.iadd, 1) := by decide +kernel
theorem dX12_claimedBy_23 : decode cX12_claimedBy 23 = .ok (.invokevirtual 209, 3) := by decide +kernel
theorem dX12_claimedBy_26 : decode cX12_claimedBy 26 = .ok (.iload_n 1, 1) := by decide +kernel
theorem dX12_claimedBy_27 : decode cX12_claimedBy 27 = .ok (.if_icmp .ne 34, 3) := by decide +kernel
theorem dX12_claimedBy_30 : decode cX12_claimedBy 30 = .ok (.aload_n 0, 1) := by decide +kernel
theorem dX12_claimedBy_31 : decode cX12_claimedBy 31 = .ok (.iconst 1, 1) := by decide +kernel
theorem dX12_claimedBy_32 : decode cX12_claimedBy 32 = .ok (.iconst 3, 1) := by decide +kernel
theorem dX12_claimedBy_33 : decode cX12_claimedBy 33 = .ok (.iload 4, 2) := by decide +kernel
theorem dX12_claimedBy_35 : decode cX12_claimedBy 35 = .ok (.imul, 1) := by decide +kernel
theorem dX12_claimedBy_36 : decode cX12_claimedBy 36 = .ok (.iadd, 1) := by decide +kernel
theorem dX12_claimedBy_37 : decode cX12_claimedBy 37 = .ok (.iconst 1, 1) := by decide +kernel
theorem dX12_claimedBy_38 : decode cX12_claimedBy 38 = .ok (.iadd, 1) := by decide +kernel
theorem dX12_claimedBy_39 : decode cX12_claimedBy 39 = .ok (.invokevirtual 209, 3) := by decide +kernel
theorem dX12_claimedBy_42 : decode cX12_claimedBy 42 = .ok (.iload_n 2, 1) := by decide +kernel
theorem dX12_claimedBy_43 : decode cX12_claimedBy 43 = .ok (.if_icmp .ne 18, 3) := by decide +kernel
theorem dX12_claimedBy_46 : decode cX12_claimedBy 46 = .ok (.aload_n 0, 1) := by decide +kernel
theorem dX12_claimedBy_47 : decode cX12_claimedBy 47 = .ok (.iconst 1, 1) := by decide +kernel
theorem dX12_claimedBy_48 : decode cX12_claimedBy 48 = .ok (.iconst 3, 1) := by decide +kernel
theorem dX12_claimedBy_49 : decode cX12_claimedBy 49 = .ok (.iload 4, 2) := by decide +kernel
theorem dX12_claimedBy_51 : decode cX12_claimedBy 51 = .ok (.imul, 1) := by decide +kernel
theorem dX12_claimedBy_52 : decode cX12_claimedBy 52 = .ok (.iadd, 1) := by decide +kernel
theorem dX12_claimedBy_53 : decode cX12_claimedBy 53 = .ok (.iconst 2, 1) := by decide +kernel
theorem dX12_claimedBy_54 : decode cX12_claimedBy 54 = .ok (.iadd, 1) := by decide +kernel
theorem dX12_claimedBy_55 : decode cX12_claimedBy 55 = .ok (.invokevirtual 209, 3) := by decide +kernel
theorem dX12_claimedBy_58 : decode cX12_claimedBy 58 = .ok (.goto 4, 3) := by decide +kernel
theorem dX12_claimedBy_61 : decode cX12_claimedBy 61 = .ok (.iconst 0, 1) := by decide +kernel
theorem dX12_claimedBy_62 : decode cX12_claimedBy 62 = .ok (.iadd, 1) := by decide +kernel
theorem dX12_claimedBy_63 : decode cX12_claimedBy 63 = .ok (.istore_n 3, 1) := by decide +kernel
theorem dX12_claimedBy_64 : decode cX12_claimedBy 64 = .ok (.iinc 4 1, 3) := by decide +kernel
theorem dX12_claimedBy_67 : decode cX12_claimedBy 67 = .ok (.goto (-62), 3) := by decide +kernel
theorem dX12_claimedBy_70 : decode cX12_claimedBy 70 = .ok (.iload_n 3, 1) := by decide +kernel
theorem dX12_claimedBy_71 : decode cX12_claimedBy 71 = .ok (.ireturn, 1) := by decide +kernel
theorem dX12_openOf_0 : decode cX12_openOf 0 = .ok (.aload_n 0, 1) := by decide +kernel
theorem dX12_openOf_1 : decode cX12_openOf 1 = .ok (.iload_n 1, 1) := by decide +kernel
theorem dX12_openOf_2 : decode cX12_openOf 2 = .ok (.invokevirtual 249, 3) := by decide +kernel
theorem dX12_openOf_5 : decode cX12_openOf 5 = .ok (.ifCond .ge 12, 3) := by decide +kernel
theorem dX12_openOf_8 : decode cX12_openOf 8 = .ok (.aload_n 0, 1) := by decide +kernel
theorem dX12_openOf_9 : decode cX12_openOf 9 = .ok (.iload_n 1, 1) := by decide +kernel
theorem dX12_openOf_10 : decode cX12_openOf 10 = .ok (.invokevirtual 249, 3) := by decide +kernel
theorem dX12_openOf_13 : decode cX12_openOf 13 = .ok (.ineg, 1) := by decide +kernel
theorem dX12_openOf_14 : decode cX12_openOf 14 = .ok (.goto 8, 3) := by decide +kernel
theorem dX12_openOf_17 : decode cX12_openOf 17 = .ok (.aload_n 0, 1) := by decide +kernel
theorem dX12_openOf_18 : decode cX12_openOf 18 = .ok (.iload_n 1, 1) := by decide +kernel
theorem dX12_openOf_19 : decode cX12_openOf 19 = .ok (.invokevirtual 249, 3) := by decide +kernel
theorem dX12_openOf_22 : decode cX12_openOf 22 = .ok (.aload_n 0, 1) := by decide +kernel
theorem dX12_openOf_23 : decode cX12_openOf 23 = .ok (.iload_n 1, 1) := by decide +kernel
theorem dX12_openOf_24 : decode cX12_openOf 24 = .ok (.invokevirtual 258, 3) := by decide +kernel
theorem dX12_openOf_27 : decode cX12_openOf 27 = .ok (.isub, 1) := by decide +kernel
theorem dX12_openOf_28 : decode cX12_openOf 28 = .ok (.ireturn, 1) := by decide +kernel
theorem dX12_laysAll_0 : decode cX12_laysAll 0 = .ok (.aload_n 0, 1) := by decide +kernel
theorem dX12_laysAll_1 : decode cX12_laysAll 1 = .ok (.iload_n 1, 1) := by decide +kernel
theorem dX12_laysAll_2 : decode cX12_laysAll 2 = .ok (.invokevirtual 261, 3) := by decide +kernel
theorem dX12_laysAll_5 : decode cX12_laysAll 5 = .ok (.iconst 0, 1) := by decide +kernel
theorem dX12_laysAll_6 : decode cX12_laysAll 6 = .ok (.istore_n 3, 1) := by decide +kernel
theorem dX12_laysAll_7 : decode cX12_laysAll 7 = .ok (.iload_n 3, 1) := by decide +kernel
theorem dX12_laysAll_8 : decode cX12_laysAll 8 = .ok (.aload_n 0, 1) := by decide +kernel
theorem dX12_laysAll_9 : decode cX12_laysAll 9 = .ok (.getfield 135, 3) := by decide +kernel
theorem dX12_laysAll_12 : decode cX12_laysAll 12 = .ok (.if_icmp .ge 162, 3) := by decide +kernel
theorem dX12_laysAll_15 : decode cX12_laysAll 15 = .ok (.aload_n 0, 1) := by decide +kernel
theorem dX12_laysAll_16 : decode cX12_laysAll 16 = .ok (.iload_n 3, 1) := by decide +kernel
theorem dX12_laysAll_17 : decode cX12_laysAll 17 = .ok (.invokevirtual 239, 3) := by decide +kernel
theorem dX12_laysAll_20 : decode cX12_laysAll 20 = .ok (.aload_n 0, 1) := by decide +kernel
theorem dX12_laysAll_21 : decode cX12_laysAll 21 = .ok (.getfield 57, 3) := by decide +kernel
theorem dX12_laysAll_24 : decode cX12_laysAll 24 = .ok (.if_icmp .eq 7, 3) := by decide +kernel
theorem dX12_laysAll_27 : decode cX12_laysAll 27 = .ok (.iconst 1, 1) := by decide +kernel
theorem dX12_laysAll_28 : decode cX12_laysAll 28 = .ok (.goto 4, 3) := by decide +kernel
theorem dX12_laysAll_31 : decode cX12_laysAll 31 = .ok (.iconst 0, 1) := by decide +kernel
theorem dX12_laysAll_32 : decode cX12_laysAll 32 = .ok (.istore 4, 2) := by decide +kernel
theorem dX12_laysAll_34 : decode cX12_laysAll 34 = .ok (.aload_n 0, 1) := by decide +kernel
theorem dX12_laysAll_35 : decode cX12_laysAll 35 = .ok (.getfield 48, 3) := by decide +kernel
theorem dX12_laysAll_38 : decode cX12_laysAll 38 = .ok (.iload_n 3, 1) := by decide +kernel
theorem dX12_laysAll_39 : decode cX12_laysAll 39 = .ok (.iload 4, 2) := by decide +kernel
theorem dX12_laysAll_41 : decode cX12_laysAll 41 = .ok (.ifCond .ne 7, 3) := by decide +kernel
theorem dX12_laysAll_44 : decode cX12_laysAll 44 = .ok (.iconst 0, 1) := by decide +kernel
theorem dX12_laysAll_45 : decode cX12_laysAll 45 = .ok (.goto 37, 3) := by decide +kernel
theorem dX12_laysAll_48 : decode cX12_laysAll 48 = .ok (.iload_n 2, 1) := by decide +kernel
theorem dX12_laysAll_49 : decode cX12_laysAll 49 = .ok (.ifCond .eq 11, 3) := by decide +kernel
theorem dX12_laysAll_52 : decode cX12_laysAll 52 = .ok (.aload_n 0, 1) := by decide +kernel
theorem dX12_laysAll_53 : decode cX12_laysAll 53 = .ok (.iload_n 3, 1) := by decide +kernel
theorem dX12_laysAll_54 : decode cX12_laysAll 54 = .ok (.invokevirtual 264, 3) := by decide +kernel
theorem dX12_laysAll_57 : decode cX12_laysAll 57 = .ok (.goto 25, 3) := by decide +kernel
theorem dX12_laysAll_60 : decode cX12_laysAll 60 = .ok (.aload_n 0, 1) := by decide +kernel
theorem dX12_laysAll_61 : decode cX12_laysAll 61 = .ok (.iload_n 3, 1) := by decide +kernel
theorem dX12_laysAll_62 : decode cX12_laysAll 62 = .ok (.invokevirtual 249, 3) := by decide +kernel
theorem dX12_laysAll_65 : decode cX12_laysAll 65 = .ok (.ifCond .ge 12, 3) := by decide +kernel
theorem dX12_laysAll_68 : decode cX12_laysAll 68 = .ok (.aload_n 0, 1) := by decide +kernel
theorem dX12_laysAll_69 : decode cX12_laysAll 69 = .ok (.iload_n 3, 1) := by decide +kernel
theorem dX12_laysAll_70 : decode cX12_laysAll 70 = .ok (.invokevirtual 249, 3) := by decide +kernel
theorem dX12_laysAll_73 : decode cX12_laysAll 73 = .ok (.ineg, 1) := by decide +kernel
theorem dX12_laysAll_74 : decode cX12_laysAll 74 = .ok (.goto 8, 3) := by decide +kernel
theorem dX12_laysAll_77 : decode cX12_laysAll 77 = .ok (.aload_n 0, 1) := by decide +kernel
theorem dX12_laysAll_78 : decode cX12_laysAll 78 = .ok (.iload_n 3, 1) := by decide +kernel
theorem dX12_laysAll_79 : decode cX12_laysAll 79 = .ok (.invokevirtual 249, 3) := by decide +kernel
theorem dX12_laysAll_82 : decode cX12_laysAll 82 = .ok (.iastore, 1) := by decide +kernel
theorem dX12_laysAll_83 : decode cX12_laysAll 83 = .ok (.iconst 0, 1) := by decide +kernel
theorem dX12_laysAll_84 : decode cX12_laysAll 84 = .ok (.istore 5, 2) := by decide +kernel
theorem dX12_laysAll_86 : decode cX12_laysAll 86 = .ok (.iload 5, 2) := by decide +kernel
theorem dX12_laysAll_88 : decode cX12_laysAll 88 = .ok (.aload_n 0, 1) := by decide +kernel
theorem dX12_laysAll_89 : decode cX12_laysAll 89 = .ok (.getfield 135, 3) := by decide +kernel
theorem dX12_laysAll_92 : decode cX12_laysAll 92 = .ok (.if_icmp .ge 76, 3) := by decide +kernel
theorem dX12_laysAll_95 : decode cX12_laysAll 95 = .ok (.aload_n 0, 1) := by decide +kernel
theorem dX12_laysAll_96 : decode cX12_laysAll 96 = .ok (.getfield 51, 3) := by decide +kernel
theorem dX12_laysAll_99 : decode cX12_laysAll 99 = .ok (.bipush 12, 2) := by decide +kernel
theorem dX12_laysAll_101 : decode cX12_laysAll 101 = .ok (.iload_n 3, 1) := by decide +kernel
theorem dX12_laysAll_102 : decode cX12_laysAll 102 = .ok (.imul, 1) := by decide +kernel
theorem dX12_laysAll_103 : decode cX12_laysAll 103 = .ok (.iload 5, 2) := by decide +kernel
theorem dX12_laysAll_105 : decode cX12_laysAll 105 = .ok (.iadd, 1) := by decide +kernel
theorem dX12_laysAll_106 : decode cX12_laysAll 106 = .ok (.iload 4, 2) := by decide +kernel
theorem dX12_laysAll_108 : decode cX12_laysAll 108 = .ok (.ifCond .eq 52, 3) := by decide +kernel
theorem dX12_laysAll_111 : decode cX12_laysAll 111 = .ok (.aload_n 0, 1) := by decide +kernel
theorem dX12_laysAll_112 : decode cX12_laysAll 112 = .ok (.iload 5, 2) := by decide +kernel
theorem dX12_laysAll_114 : decode cX12_laysAll 114 = .ok (.invokevirtual 239, 3) := by decide +kernel
theorem dX12_laysAll_117 : decode cX12_laysAll 117 = .ok (.aload_n 0, 1) := by decide +kernel
theorem dX12_laysAll_118 : decode cX12_laysAll 118 = .ok (.getfield 57, 3) := by decide +kernel
theorem dX12_laysAll_121 : decode cX12_laysAll 121 = .ok (.if_icmp .eq 39, 3) := by decide +kernel
theorem dX12_laysAll_124 : decode cX12_laysAll 124 = .ok (.aload_n 0, 1) := by decide +kernel
theorem dX12_laysAll_125 : decode cX12_laysAll 125 = .ok (.iload_n 3, 1) := by decide +kernel
theorem dX12_laysAll_126 : decode cX12_laysAll 126 = .ok (.iload 5, 2) := by decide +kernel
theorem dX12_laysAll_128 : decode cX12_laysAll 128 = .ok (.invokevirtual 267, 3) := by decide +kernel
theorem dX12_laysAll_131 : decode cX12_laysAll 131 = .ok (.ifCond .eq 29, 3) := by decide +kernel
theorem dX12_laysAll_134 : decode cX12_laysAll 134 = .ok (.aload_n 0, 1) := by decide +kernel
theorem dX12_laysAll_135 : decode cX12_laysAll 135 = .ok (.iload_n 3, 1) := by decide +kernel
theorem dX12_laysAll_136 : decode cX12_laysAll 136 = .ok (.iload 5, 2) := by decide +kernel
theorem dX12_laysAll_138 : decode cX12_laysAll 138 = .ok (.invokevirtual 270, 3) := by decide +kernel
theorem dX12_laysAll_141 : decode cX12_laysAll 141 = .ok (.iload_n 2, 1) := by decide +kernel
theorem dX12_laysAll_142 : decode cX12_laysAll 142 = .ok (.ifCond .eq 13, 3) := by decide +kernel
theorem dX12_laysAll_145 : decode cX12_laysAll 145 = .ok (.aload_n 0, 1) := by decide +kernel
theorem dX12_laysAll_146 : decode cX12_laysAll 146 = .ok (.iload_n 3, 1) := by decide +kernel
theorem dX12_laysAll_147 : decode cX12_laysAll 147 = .ok (.iload 5, 2) := by decide +kernel
theorem dX12_laysAll_149 : decode cX12_laysAll 149 = .ok (.invokevirtual 273, 3) := by decide +kernel
theorem dX12_laysAll_152 : decode cX12_laysAll 152 = .ok (.goto 4, 3) := by decide +kernel
theorem dX12_laysAll_155 : decode cX12_laysAll 155 = .ok (.iconst 0, 1) := by decide +kernel
theorem dX12_laysAll_156 : decode cX12_laysAll 156 = .ok (.isub, 1) := by decide +kernel
theorem dX12_laysAll_157 : decode cX12_laysAll 157 = .ok (.goto 4, 3) := by decide +kernel
theorem dX12_laysAll_160 : decode cX12_laysAll 160 = .ok (.iconst 0, 1) := by decide +kernel
theorem dX12_laysAll_161 : decode cX12_laysAll 161 = .ok (.iastore, 1) := by decide +kernel
theorem dX12_laysAll_162 : decode cX12_laysAll 162 = .ok (.iinc 5 1, 3) := by decide +kernel
theorem dX12_laysAll_165 : decode cX12_laysAll 165 = .ok (.goto (-79), 3) := by decide +kernel
theorem dX12_laysAll_168 : decode cX12_laysAll 168 = .ok (.iinc 3 1, 3) := by decide +kernel
theorem dX12_laysAll_171 : decode cX12_laysAll 171 = .ok (.goto (-164), 3) := by decide +kernel
theorem dX12_laysAll_174 : decode cX12_laysAll 174 = .ok (.return_, 1) := by decide +kernel
theorem dX12_isBetter_0 : decode cX12_isBetter 0 = .ok (.aload_n 0, 1) := by decide +kernel
theorem dX12_isBetter_1 : decode cX12_isBetter 1 = .ok (.getfield 63, 3) := by decide +kernel
theorem dX12_isBetter_4 : decode cX12_isBetter 4 = .ok (.iload 4, 2) := by decide +kernel
theorem dX12_isBetter_6 : decode cX12_isBetter 6 = .ok (.iaload, 1) := by decide +kernel
theorem dX12_isBetter_7 : decode cX12_isBetter 7 = .ok (.ifCond .ne 5, 3) := by decide +kernel
theorem dX12_isBetter_10 : decode cX12_isBetter 10 = .ok (.iconst 1, 1) := by decide +kernel
theorem dX12_isBetter_11 : decode cX12_isBetter 11 = .ok (.ireturn, 1) := by decide +kernel
theorem dX12_isBetter_12 : decode cX12_isBetter 12 = .ok (.iload_n 1, 1) := by decide +kernel
theorem dX12_isBetter_13 : decode cX12_isBetter 13 = .ok (.aload_n 0, 1) := by decide +kernel
theorem dX12_isBetter_14 : decode cX12_isBetter 14 = .ok (.getfield 60, 3) := by decide +kernel
theorem dX12_isBetter_17 : decode cX12_isBetter 17 = .ok (.iload 4, 2) := by decide +kernel
theorem dX12_isBetter_19 : decode cX12_isBetter 19 = .ok (.iaload, 1) := by decide +kernel
theorem dX12_isBetter_20 : decode cX12_isBetter 20 = .ok (.if_icmp .eq 20, 3) := by decide +kernel
theorem dX12_isBetter_23 : decode cX12_isBetter 23 = .ok (.iload_n 1, 1) := by decide +kernel
theorem dX12_isBetter_24 : decode cX12_isBetter 24 = .ok (.aload_n 0, 1) := by decide +kernel
theorem dX12_isBetter_25 : decode cX12_isBetter 25 = .ok (.getfield 60, 3) := by decide +kernel
theorem dX12_isBetter_28 : decode cX12_isBetter 28 = .ok (.iload 4, 2) := by decide +kernel
theorem dX12_isBetter_30 : decode cX12_isBetter 30 = .ok (.iaload, 1) := by decide +kernel
theorem dX12_isBetter_31 : decode cX12_isBetter 31 = .ok (.if_icmp .ge 7, 3) := by decide +kernel
theorem dX12_isBetter_34 : decode cX12_isBetter 34 = .ok (.iconst 1, 1) := by decide +kernel
theorem dX12_isBetter_35 : decode cX12_isBetter 35 = .ok (.goto 4, 3) := by decide +kernel
theorem dX12_isBetter_38 : decode cX12_isBetter 38 = .ok (.iconst 0, 1) := by decide +kernel
theorem dX12_isBetter_39 : decode cX12_isBetter 39 = .ok (.ireturn, 1) := by decide +kernel
theorem dX12_isBetter_40 : decode cX12_isBetter 40 = .ok (.iload_n 2, 1) := by decide +kernel
theorem dX12_isBetter_41 : decode cX12_isBetter 41 = .ok (.aload_n 0, 1) := by decide +kernel
theorem dX12_isBetter_42 : decode cX12_isBetter 42 = .ok (.getfield 63, 3) := by decide +kernel
theorem dX12_isBetter_45 : decode cX12_isBetter 45 = .ok (.iload 4, 2) := by decide +kernel
theorem dX12_isBetter_47 : decode cX12_isBetter 47 = .ok (.iaload, 1) := by decide +kernel
theorem dX12_isBetter_48 : decode cX12_isBetter 48 = .ok (.if_icmp .eq 20, 3) := by decide +kernel
theorem dX12_isBetter_51 : decode cX12_isBetter 51 = .ok (.iload_n 2, 1) := by decide +kernel
theorem dX12_isBetter_52 : decode cX12_isBetter 52 = .ok (.aload_n 0, 1) := by decide +kernel
theorem dX12_isBetter_53 : decode cX12_isBetter 53 = .ok (.getfield 63, 3) := by decide +kernel
theorem dX12_isBetter_56 : decode cX12_isBetter 56 = .ok (.iload 4, 2) := by decide +kernel
theorem dX12_isBetter_58 : decode cX12_isBetter 58 = .ok (.iaload, 1) := by decide +kernel
theorem dX12_isBetter_59 : decode cX12_isBetter 59 = .ok (.if_icmp .ge 7, 3) := by decide +kernel
theorem dX12_isBetter_62 : decode cX12_isBetter 62 = .ok (.iconst 1, 1) := by decide +kernel
theorem dX12_isBetter_63 : decode cX12_isBetter 63 = .ok (.goto 4, 3) := by decide +kernel
theorem dX12_isBetter_66 : decode cX12_isBetter 66 = .ok (.iconst 0, 1) := by decide +kernel
theorem dX12_isBetter_67 : decode cX12_isBetter 67 = .ok (.ireturn, 1) := by decide +kernel
theorem dX12_isBetter_68 : decode cX12_isBetter 68 = .ok (.iconst 0, 1) := by decide +kernel
theorem dX12_isBetter_69 : decode cX12_isBetter 69 = .ok (.istore 5, 2) := by decide +kernel
theorem dX12_isBetter_71 : decode cX12_isBetter 71 = .ok (.iload 5, 2) := by decide +kernel
theorem dX12_isBetter_73 : decode cX12_isBetter 73 = .ok (.iload_n 2, 1) := by decide +kernel
theorem dX12_isBetter_74 : decode cX12_isBetter 74 = .ok (.iconst 1, 1) := by decide +kernel
theorem dX12_isBetter_75 : decode cX12_isBetter 75 = .ok (.isub, 1) := by decide +kernel
theorem dX12_isBetter_76 : decode cX12_isBetter 76 = .ok (.if_icmp .ge 71, 3) := by decide +kernel
theorem dX12_isBetter_79 : decode cX12_isBetter 79 = .ok (.aload_n 0, 1) := by decide +kernel
theorem dX12_isBetter_80 : decode cX12_isBetter 80 = .ok (.getfield 66, 3) := by decide +kernel
theorem dX12_isBetter_83 : decode cX12_isBetter 83 = .ok (.bipush 12, 2) := by decide +kernel
theorem dX12_isBetter_85 : decode cX12_isBetter 85 = .ok (.iload_n 3, 1) := by decide +kernel
theorem dX12_isBetter_86 : decode cX12_isBetter 86 = .ok (.imul, 1) := by decide +kernel
theorem dX12_isBetter_87 : decode cX12_isBetter 87 = .ok (.iload 5, 2) := by decide +kernel
theorem dX12_isBetter_89 : decode cX12_isBetter 89 = .ok (.iadd, 1) := by decide +kernel
theorem dX12_isBetter_90 : decode cX12_isBetter 90 = .ok (.iaload, 1) := by decide +kernel
theorem dX12_isBetter_91 : decode cX12_isBetter 91 = .ok (.aload_n 0, 1) := by decide +kernel
theorem dX12_isBetter_92 : decode cX12_isBetter 92 = .ok (.getfield 66, 3) := by decide +kernel
theorem dX12_isBetter_95 : decode cX12_isBetter 95 = .ok (.bipush 12, 2) := by decide +kernel
theorem dX12_isBetter_97 : decode cX12_isBetter 97 = .ok (.iload 4, 2) := by decide +kernel
theorem dX12_isBetter_99 : decode cX12_isBetter 99 = .ok (.imul, 1) := by decide +kernel
theorem dX12_isBetter_100 : decode cX12_isBetter 100 = .ok (.iload 5, 2) := by decide +kernel
theorem dX12_isBetter_102 : decode cX12_isBetter 102 = .ok (.iadd, 1) := by decide +kernel
theorem dX12_isBetter_103 : decode cX12_isBetter 103 = .ok (.iaload, 1) := by decide +kernel
theorem dX12_isBetter_104 : decode cX12_isBetter 104 = .ok (.if_icmp .eq 37, 3) := by decide +kernel
theorem dX12_isBetter_107 : decode cX12_isBetter 107 = .ok (.aload_n 0, 1) := by decide +kernel
theorem dX12_isBetter_108 : decode cX12_isBetter 108 = .ok (.getfield 66, 3) := by decide +kernel
theorem dX12_isBetter_111 : decode cX12_isBetter 111 = .ok (.bipush 12, 2) := by decide +kernel
theorem dX12_isBetter_113 : decode cX12_isBetter 113 = .ok (.iload_n 3, 1) := by decide +kernel
theorem dX12_isBetter_114 : decode cX12_isBetter 114 = .ok (.imul, 1) := by decide +kernel
theorem dX12_isBetter_115 : decode cX12_isBetter 115 = .ok (.iload 5, 2) := by decide +kernel
theorem dX12_isBetter_117 : decode cX12_isBetter 117 = .ok (.iadd, 1) := by decide +kernel
theorem dX12_isBetter_118 : decode cX12_isBetter 118 = .ok (.iaload, 1) := by decide +kernel
theorem dX12_isBetter_119 : decode cX12_isBetter 119 = .ok (.aload_n 0, 1) := by decide +kernel
theorem dX12_isBetter_120 : decode cX12_isBetter 120 = .ok (.getfield 66, 3) := by decide +kernel
theorem dX12_isBetter_123 : decode cX12_isBetter 123 = .ok (.bipush 12, 2) := by decide +kernel
theorem dX12_isBetter_125 : decode cX12_isBetter 125 = .ok (.iload 4, 2) := by decide +kernel
theorem dX12_isBetter_127 : decode cX12_isBetter 127 = .ok (.imul, 1) := by decide +kernel
theorem dX12_isBetter_128 : decode cX12_isBetter 128 = .ok (.iload 5, 2) := by decide +kernel
theorem dX12_isBetter_130 : decode cX12_isBetter 130 = .ok (.iadd, 1) := by decide +kernel
theorem dX12_isBetter_131 : decode cX12_isBetter 131 = .ok (.iaload, 1) := by decide +kernel
theorem dX12_isBetter_132 : decode cX12_isBetter 132 = .ok (.if_icmp .ge 7, 3) := by decide +kernel
theorem dX12_isBetter_135 : decode cX12_isBetter 135 = .ok (.iconst 1, 1) := by decide +kernel
theorem dX12_isBetter_136 : decode cX12_isBetter 136 = .ok (.goto 4, 3) := by decide +kernel
theorem dX12_isBetter_139 : decode cX12_isBetter 139 = .ok (.iconst 0, 1) := by decide +kernel
theorem dX12_isBetter_140 : decode cX12_isBetter 140 = .ok (.ireturn, 1) := by decide +kernel
theorem dX12_isBetter_141 : decode cX12_isBetter 141 = .ok (.iinc 5 1, 3) := by decide +kernel
theorem dX12_isBetter_144 : decode cX12_isBetter 144 = .ok (.goto (-73), 3) := by decide +kernel
theorem dX12_isBetter_147 : decode cX12_isBetter 147 = .ok (.iconst 0, 1) := by decide +kernel
theorem dX12_isBetter_148 : decode cX12_isBetter 148 = .ok (.ireturn, 1) := by decide +kernel
theorem dX12_goes_0 : decode cX12_goes 0 = .ok (.aload_n 0, 1) := by decide +kernel
theorem dX12_goes_1 : decode cX12_goes 1 = .ok (.getfield 63, 3) := by decide +kernel
theorem dX12_goes_4 : decode cX12_goes 4 = .ok (.iload_n 1, 1) := by decide +kernel
theorem dX12_goes_5 : decode cX12_goes 5 = .ok (.iaload, 1) := by decide +kernel
theorem dX12_goes_6 : decode cX12_goes 6 = .ok (.ifCond .eq 39, 3) := by decide +kernel
theorem dX12_goes_9 : decode cX12_goes 9 = .ok (.aload_n 0, 1) := by decide +kernel
theorem dX12_goes_10 : decode cX12_goes 10 = .ok (.getfield 63, 3) := by decide +kernel
theorem dX12_goes_13 : decode cX12_goes 13 = .ok (.iload_n 1, 1) := by decide +kernel
theorem dX12_goes_14 : decode cX12_goes 14 = .ok (.iaload, 1) := by decide +kernel
theorem dX12_goes_15 : decode cX12_goes 15 = .ok (.bipush 12, 2) := by decide +kernel
theorem dX12_goes_17 : decode cX12_goes 17 = .ok (.if_icmp .eq 28, 3) := by decide +kernel
theorem dX12_goes_20 : decode cX12_goes 20 = .ok (.aload_n 0, 1) := by decide +kernel
theorem dX12_goes_21 : decode cX12_goes 21 = .ok (.aload_n 0, 1) := by decide +kernel
theorem dX12_goes_22 : decode cX12_goes 22 = .ok (.getfield 60, 3) := by decide +kernel
theorem dX12_goes_25 : decode cX12_goes 25 = .ok (.iload_n 1, 1) := by decide +kernel
theorem dX12_goes_26 : decode cX12_goes 26 = .ok (.iaload, 1) := by decide +kernel
theorem dX12_goes_27 : decode cX12_goes 27 = .ok (.iload_n 3, 1) := by decide +kernel
theorem dX12_goes_28 : decode cX12_goes 28 = .ok (.iadd, 1) := by decide +kernel
theorem dX12_goes_29 : decode cX12_goes 29 = .ok (.aload_n 0, 1) := by decide +kernel
theorem dX12_goes_30 : decode cX12_goes 30 = .ok (.getfield 63, 3) := by decide +kernel
theorem dX12_goes_33 : decode cX12_goes 33 = .ok (.iload_n 1, 1) := by decide +kernel
theorem dX12_goes_34 : decode cX12_goes 34 = .ok (.iaload, 1) := by decide +kernel
theorem dX12_goes_35 : decode cX12_goes 35 = .ok (.iconst 1, 1) := by decide +kernel
theorem dX12_goes_36 : decode cX12_goes 36 = .ok (.iadd, 1) := by decide +kernel
theorem dX12_goes_37 : decode cX12_goes 37 = .ok (.iload_n 1, 1) := by decide +kernel
theorem dX12_goes_38 : decode cX12_goes 38 = .ok (.iload_n 2, 1) := by decide +kernel
theorem dX12_goes_39 : decode cX12_goes 39 = .ok (.invokevirtual 276, 3) := by decide +kernel
theorem dX12_goes_42 : decode cX12_goes 42 = .ok (.ifCond .ne 5, 3) := by decide +kernel
theorem dX12_goes_45 : decode cX12_goes 45 = .ok (.iconst 0, 1) := by decide +kernel
theorem dX12_goes_46 : decode cX12_goes 46 = .ok (.ireturn, 1) := by decide +kernel
theorem dX12_goes_47 : decode cX12_goes 47 = .ok (.aload_n 0, 1) := by decide +kernel
theorem dX12_goes_48 : decode cX12_goes 48 = .ok (.getfield 60, 3) := by decide +kernel
theorem dX12_goes_51 : decode cX12_goes 51 = .ok (.iload_n 2, 1) := by decide +kernel
theorem dX12_goes_52 : decode cX12_goes 52 = .ok (.aload_n 0, 1) := by decide +kernel
theorem dX12_goes_53 : decode cX12_goes 53 = .ok (.getfield 60, 3) := by decide +kernel
theorem dX12_goes_56 : decode cX12_goes 56 = .ok (.iload_n 1, 1) := by decide +kernel
theorem dX12_goes_57 : decode cX12_goes 57 = .ok (.iaload, 1) := by decide +kernel
theorem dX12_goes_58 : decode cX12_goes 58 = .ok (.iload_n 3, 1) := by decide +kernel
theorem dX12_goes_59 : decode cX12_goes 59 = .ok (.iadd, 1) := by decide +kernel
theorem dX12_goes_60 : decode cX12_goes 60 = .ok (.iastore, 1) := by decide +kernel
theorem dX12_goes_61 : decode cX12_goes 61 = .ok (.aload_n 0, 1) := by decide +kernel
theorem dX12_goes_62 : decode cX12_goes 62 = .ok (.getfield 63, 3) := by decide +kernel
theorem dX12_goes_65 : decode cX12_goes 65 = .ok (.iload_n 2, 1) := by decide +kernel
theorem dX12_goes_66 : decode cX12_goes 66 = .ok (.aload_n 0, 1) := by decide +kernel
theorem dX12_goes_67 : decode cX12_goes 67 = .ok (.getfield 63, 3) := by decide +kernel
theorem dX12_goes_70 : decode cX12_goes 70 = .ok (.iload_n 1, 1) := by decide +kernel
theorem dX12_goes_71 : decode cX12_goes 71 = .ok (.iaload, 1) := by decide +kernel
theorem dX12_goes_72 : decode cX12_goes 72 = .ok (.iconst 1, 1) := by decide +kernel
theorem dX12_goes_73 : decode cX12_goes 73 = .ok (.iadd, 1) := by decide +kernel
theorem dX12_goes_74 : decode cX12_goes 74 = .ok (.iastore, 1) := by decide +kernel
theorem dX12_goes_75 : decode cX12_goes 75 = .ok (.iconst 0, 1) := by decide +kernel
theorem dX12_goes_76 : decode cX12_goes 76 = .ok (.istore 4, 2) := by decide +kernel
theorem dX12_goes_78 : decode cX12_goes 78 = .ok (.iload 4, 2) := by decide +kernel
theorem dX12_goes_80 : decode cX12_goes 80 = .ok (.aload_n 0, 1) := by decide +kernel
theorem dX12_goes_81 : decode cX12_goes 81 = .ok (.getfield 63, 3) := by decide +kernel
theorem dX12_goes_84 : decode cX12_goes 84 = .ok (.iload_n 1, 1) := by decide +kernel
theorem dX12_goes_85 : decode cX12_goes 85 = .ok (.iaload, 1) := by decide +kernel
theorem dX12_goes_86 : decode cX12_goes 86 = .ok (.if_icmp .ge 33, 3) := by decide +kernel
theorem dX12_goes_89 : decode cX12_goes 89 = .ok (.aload_n 0, 1) := by decide +kernel
theorem dX12_goes_90 : decode cX12_goes 90 = .ok (.getfield 66, 3) := by decide +kernel
theorem dX12_goes_93 : decode cX12_goes 93 = .ok (.bipush 12, 2) := by decide +kernel
theorem dX12_goes_95 : decode cX12_goes 95 = .ok (.iload_n 2, 1) := by decide +kernel
theorem dX12_goes_96 : decode cX12_goes 96 = .ok (.imul, 1) := by decide +kernel
theorem dX12_goes_97 : decode cX12_goes 97 = .ok (.iload 4, 2) := by decide +kernel
theorem dX12_goes_99 : decode cX12_goes 99 = .ok (.iadd, 1) := by decide +kernel
theorem dX12_goes_100 : decode cX12_goes 100 = .ok (.aload_n 0, 1) := by decide +kernel
theorem dX12_goes_101 : decode cX12_goes 101 = .ok (.getfield 66, 3) := by decide +kernel
theorem dX12_goes_104 : decode cX12_goes 104 = .ok (.bipush 12, 2) := by decide +kernel
theorem dX12_goes_106 : decode cX12_goes 106 = .ok (.iload_n 1, 1) := by decide +kernel
theorem dX12_goes_107 : decode cX12_goes 107 = .ok (.imul, 1) := by decide +kernel
theorem dX12_goes_108 : decode cX12_goes 108 = .ok (.iload 4, 2) := by decide +kernel
theorem dX12_goes_110 : decode cX12_goes 110 = .ok (.iadd, 1) := by decide +kernel
theorem dX12_goes_111 : decode cX12_goes 111 = .ok (.iaload, 1) := by decide +kernel
theorem dX12_goes_112 : decode cX12_goes 112 = .ok (.iastore, 1) := by decide +kernel
theorem dX12_goes_113 : decode cX12_goes 113 = .ok (.iinc 4 1, 3) := by decide +kernel
theorem dX12_goes_116 : decode cX12_goes 116 = .ok (.goto (-38), 3) := by decide +kernel
theorem dX12_goes_119 : decode cX12_goes 119 = .ok (.aload_n 0, 1) := by decide +kernel
theorem dX12_goes_120 : decode cX12_goes 120 = .ok (.getfield 66, 3) := by decide +kernel
theorem dX12_goes_123 : decode cX12_goes 123 = .ok (.bipush 12, 2) := by decide +kernel
theorem dX12_goes_125 : decode cX12_goes 125 = .ok (.iload_n 2, 1) := by decide +kernel
theorem dX12_goes_126 : decode cX12_goes 126 = .ok (.imul, 1) := by decide +kernel
theorem dX12_goes_127 : decode cX12_goes 127 = .ok (.aload_n 0, 1) := by decide +kernel
theorem dX12_goes_128 : decode cX12_goes 128 = .ok (.getfield 63, 3) := by decide +kernel
theorem dX12_goes_131 : decode cX12_goes 131 = .ok (.iload_n 1, 1) := by decide +kernel
theorem dX12_goes_132 : decode cX12_goes 132 = .ok (.iaload, 1) := by decide +kernel
theorem dX12_goes_133 : decode cX12_goes 133 = .ok (.iadd, 1) := by decide +kernel
theorem dX12_goes_134 : decode cX12_goes 134 = .ok (.iload_n 2, 1) := by decide +kernel
theorem dX12_goes_135 : decode cX12_goes 135 = .ok (.iastore, 1) := by decide +kernel
theorem dX12_goes_136 : decode cX12_goes 136 = .ok (.iconst 1, 1) := by decide +kernel
theorem dX12_goes_137 : decode cX12_goes 137 = .ok (.ireturn, 1) := by decide +kernel
theorem dX12_laysRoutes_0 : decode cX12_laysRoutes 0 = .ok (.iconst 0, 1) := by decide +kernel
theorem dX12_laysRoutes_1 : decode cX12_laysRoutes 1 = .ok (.istore_n 1, 1) := by decide +kernel
theorem dX12_laysRoutes_2 : decode cX12_laysRoutes 2 = .ok (.iload_n 1, 1) := by decide +kernel
theorem dX12_laysRoutes_3 : decode cX12_laysRoutes 3 = .ok (.aload_n 0, 1) := by decide +kernel
theorem dX12_laysRoutes_4 : decode cX12_laysRoutes 4 = .ok (.getfield 135, 3) := by decide +kernel
theorem dX12_laysRoutes_7 : decode cX12_laysRoutes 7 = .ok (.if_icmp .ge 54, 3) := by decide +kernel
theorem dX12_laysRoutes_10 : decode cX12_laysRoutes 10 = .ok (.aload_n 0, 1) := by decide +kernel
theorem dX12_laysRoutes_11 : decode cX12_laysRoutes 11 = .ok (.getfield 63, 3) := by decide +kernel
theorem dX12_laysRoutes_14 : decode cX12_laysRoutes 14 = .ok (.iload_n 1, 1) := by decide +kernel
theorem dX12_laysRoutes_15 : decode cX12_laysRoutes 15 = .ok (.aload_n 0, 1) := by decide +kernel
theorem dX12_laysRoutes_16 : decode cX12_laysRoutes 16 = .ok (.iload_n 1, 1) := by decide +kernel
theorem dX12_laysRoutes_17 : decode cX12_laysRoutes 17 = .ok (.invokevirtual 249, 3) := by decide +kernel
theorem dX12_laysRoutes_20 : decode cX12_laysRoutes 20 = .ok (.ifCond .ge 16, 3) := by decide +kernel
theorem dX12_laysRoutes_23 : decode cX12_laysRoutes 23 = .ok (.aload_n 0, 1) := by decide +kernel
theorem dX12_laysRoutes_24 : decode cX12_laysRoutes 24 = .ok (.getfield 48, 3) := by decide +kernel
theorem dX12_laysRoutes_27 : decode cX12_laysRoutes 27 = .ok (.iload_n 1, 1) := by decide +kernel
theorem dX12_laysRoutes_28 : decode cX12_laysRoutes 28 = .ok (.iaload, 1) := by decide +kernel
theorem dX12_laysRoutes_29 : decode cX12_laysRoutes 29 = .ok (.ifCond .le 7, 3) := by decide +kernel
theorem dX12_laysRoutes_32 : decode cX12_laysRoutes 32 = .ok (.iconst 1, 1) := by decide +kernel
theorem dX12_laysRoutes_33 : decode cX12_laysRoutes 33 = .ok (.goto 4, 3) := by decide +kernel
theorem dX12_laysRoutes_36 : decode cX12_laysRoutes 36 = .ok (.iconst 0, 1) := by decide +kernel
theorem dX12_laysRoutes_37 : decode cX12_laysRoutes 37 = .ok (.iastore, 1) := by decide +kernel
theorem dX12_laysRoutes_38 : decode cX12_laysRoutes 38 = .ok (.aload_n 0, 1) := by decide +kernel
theorem dX12_laysRoutes_39 : decode cX12_laysRoutes 39 = .ok (.getfield 60, 3) := by decide +kernel
theorem dX12_laysRoutes_42 : decode cX12_laysRoutes 42 = .ok (.iload_n 1, 1) := by decide +kernel
theorem dX12_laysRoutes_43 : decode cX12_laysRoutes 43 = .ok (.iconst 0, 1) := by decide +kernel
theorem dX12_laysRoutes_44 : decode cX12_laysRoutes 44 = .ok (.iastore, 1) := by decide +kernel
theorem dX12_laysRoutes_45 : decode cX12_laysRoutes 45 = .ok (.aload_n 0, 1) := by decide +kernel
theorem dX12_laysRoutes_46 : decode cX12_laysRoutes 46 = .ok (.getfield 66, 3) := by decide +kernel
theorem dX12_laysRoutes_49 : decode cX12_laysRoutes 49 = .ok (.bipush 12, 2) := by decide +kernel
theorem dX12_laysRoutes_51 : decode cX12_laysRoutes 51 = .ok (.iload_n 1, 1) := by decide +kernel
theorem dX12_laysRoutes_52 : decode cX12_laysRoutes 52 = .ok (.imul, 1) := by decide +kernel
theorem dX12_laysRoutes_53 : decode cX12_laysRoutes 53 = .ok (.iload_n 1, 1) := by decide +kernel
theorem dX12_laysRoutes_54 : decode cX12_laysRoutes 54 = .ok (.iastore, 1) := by decide +kernel
theorem dX12_laysRoutes_55 : decode cX12_laysRoutes 55 = .ok (.iinc 1 1, 3) := by decide +kernel
theorem dX12_laysRoutes_58 : decode cX12_laysRoutes 58 = .ok (.goto (-56), 3) := by decide +kernel
theorem dX12_laysRoutes_61 : decode cX12_laysRoutes 61 = .ok (.iconst 1, 1) := by decide +kernel
theorem dX12_laysRoutes_62 : decode cX12_laysRoutes 62 = .ok (.istore_n 1, 1) := by decide +kernel
theorem dX12_laysRoutes_63 : decode cX12_laysRoutes 63 = .ok (.iload_n 1, 1) := by decide +kernel
theorem dX12_laysRoutes_64 : decode cX12_laysRoutes 64 = .ok (.ifCond .eq 103, 3) := by decide +kernel
theorem dX12_laysRoutes_67 : decode cX12_laysRoutes 67 = .ok (.iconst 0, 1) := by decide +kernel
theorem dX12_laysRoutes_68 : decode cX12_laysRoutes 68 = .ok (.istore_n 1, 1) := by decide +kernel
theorem dX12_laysRoutes_69 : decode cX12_laysRoutes 69 = .ok (.iconst 0, 1) := by decide +kernel
theorem dX12_laysRoutes_70 : decode cX12_laysRoutes 70 = .ok (.istore_n 2, 1) := by decide +kernel
theorem dX12_laysRoutes_71 : decode cX12_laysRoutes 71 = .ok (.iload_n 2, 1) := by decide +kernel
theorem dX12_laysRoutes_72 : decode cX12_laysRoutes 72 = .ok (.aload_n 0, 1) := by decide +kernel
theorem dX12_laysRoutes_73 : decode cX12_laysRoutes 73 = .ok (.getfield 135, 3) := by decide +kernel
theorem dX12_laysRoutes_76 : decode cX12_laysRoutes 76 = .ok (.if_icmp .ge 88, 3) := by decide +kernel
theorem dX12_laysRoutes_79 : decode cX12_laysRoutes 79 = .ok (.iconst 0, 1) := by decide +kernel
theorem dX12_laysRoutes_80 : decode cX12_laysRoutes 80 = .ok (.istore_n 3, 1) := by decide +kernel
theorem dX12_laysRoutes_81 : decode cX12_laysRoutes 81 = .ok (.iload_n 3, 1) := by decide +kernel
theorem dX12_laysRoutes_82 : decode cX12_laysRoutes 82 = .ok (.aload_n 0, 1) := by decide +kernel
theorem dX12_laysRoutes_83 : decode cX12_laysRoutes 83 = .ok (.getfield 135, 3) := by decide +kernel
theorem dX12_laysRoutes_86 : decode cX12_laysRoutes 86 = .ok (.if_icmp .ge 72, 3) := by decide +kernel
theorem dX12_laysRoutes_89 : decode cX12_laysRoutes 89 = .ok (.aload_n 0, 1) := by decide +kernel
theorem dX12_laysRoutes_90 : decode cX12_laysRoutes 90 = .ok (.getfield 51, 3) := by decide +kernel
theorem dX12_laysRoutes_93 : decode cX12_laysRoutes 93 = .ok (.bipush 12, 2) := by decide +kernel
theorem dX12_laysRoutes_95 : decode cX12_laysRoutes 95 = .ok (.iload_n 2, 1) := by decide +kernel
theorem dX12_laysRoutes_96 : decode cX12_laysRoutes 96 = .ok (.imul, 1) := by decide +kernel
theorem dX12_laysRoutes_97 : decode cX12_laysRoutes 97 = .ok (.iload_n 3, 1) := by decide +kernel
theorem dX12_laysRoutes_98 : decode cX12_laysRoutes 98 = .ok (.iadd, 1) := by decide +kernel
theorem dX12_laysRoutes_99 : decode cX12_laysRoutes 99 = .ok (.iaload, 1) := by decide +kernel
theorem dX12_laysRoutes_100 : decode cX12_laysRoutes 100 = .ok (.ifCond .le 20, 3) := by decide +kernel
theorem dX12_laysRoutes_103 : decode cX12_laysRoutes 103 = .ok (.aload_n 0, 1) := by decide +kernel
theorem dX12_laysRoutes_104 : decode cX12_laysRoutes 104 = .ok (.iload_n 2, 1) := by decide +kernel
theorem dX12_laysRoutes_105 : decode cX12_laysRoutes 105 = .ok (.iload_n 3, 1) := by decide +kernel
theorem dX12_laysRoutes_106 : decode cX12_laysRoutes 106 = .ok (.aload_n 0, 1) := by decide +kernel
theorem dX12_laysRoutes_107 : decode cX12_laysRoutes 107 = .ok (.iload_n 2, 1) := by decide +kernel
theorem dX12_laysRoutes_108 : decode cX12_laysRoutes 108 = .ok (.iload_n 3, 1) := by decide +kernel
theorem dX12_laysRoutes_109 : decode cX12_laysRoutes 109 = .ok (.invokevirtual 280, 3) := by decide +kernel
theorem dX12_laysRoutes_112 : decode cX12_laysRoutes 112 = .ok (.invokevirtual 283, 3) := by decide +kernel
theorem dX12_laysRoutes_115 : decode cX12_laysRoutes 115 = .ok (.ifCond .eq 5, 3) := by decide +kernel
theorem dX12_laysRoutes_118 : decode cX12_laysRoutes 118 = .ok (.iconst 1, 1) := by decide +kernel
theorem dX12_laysRoutes_119 : decode cX12_laysRoutes 119 = .ok (.istore_n 1, 1) := by decide +kernel
theorem dX12_laysRoutes_120 : decode cX12_laysRoutes 120 = .ok (.aload_n 0, 1) := by decide +kernel
theorem dX12_laysRoutes_121 : decode cX12_laysRoutes 121 = .ok (.getfield 54, 3) := by decide +kernel
theorem dX12_laysRoutes_124 : decode cX12_laysRoutes 124 = .ok (.bipush 12, 2) := by decide +kernel
theorem dX12_laysRoutes_126 : decode cX12_laysRoutes 126 = .ok (.iload_n 2, 1) := by decide +kernel
theorem dX12_laysRoutes_127 : decode cX12_laysRoutes 127 = .ok (.imul, 1) := by decide +kernel
theorem dX12_laysRoutes_128 : decode cX12_laysRoutes 128 = .ok (.iload_n 3, 1) := by decide +kernel
theorem dX12_laysRoutes_129 : decode cX12_laysRoutes 129 = .ok (.iadd, 1) := by decide +kernel
theorem dX12_laysRoutes_130 : decode cX12_laysRoutes 130 = .ok (.iaload, 1) := by decide +kernel
theorem dX12_laysRoutes_131 : decode cX12_laysRoutes 131 = .ok (.ifCond .le 21, 3) := by decide +kernel
theorem dX12_laysRoutes_134 : decode cX12_laysRoutes 134 = .ok (.aload_n 0, 1) := by decide +kernel
theorem dX12_laysRoutes_135 : decode cX12_laysRoutes 135 = .ok (.iload_n 3, 1) := by decide +kernel
theorem dX12_laysRoutes_136 : decode cX12_laysRoutes 136 = .ok (.iload_n 2, 1) := by decide +kernel
theorem dX12_laysRoutes_137 : decode cX12_laysRoutes 137 = .ok (.aload_n 0, 1) := by decide +kernel
theorem dX12_laysRoutes_138 : decode cX12_laysRoutes 138 = .ok (.iload_n 2, 1) := by decide +kernel
theorem dX12_laysRoutes_139 : decode cX12_laysRoutes 139 = .ok (.iload_n 3, 1) := by decide +kernel
theorem dX12_laysRoutes_140 : decode cX12_laysRoutes 140 = .ok (.invokevirtual 280, 3) := by decide +kernel
theorem dX12_laysRoutes_143 : decode cX12_laysRoutes 143 = .ok (.ineg, 1) := by decide +kernel
theorem dX12_laysRoutes_144 : decode cX12_laysRoutes 144 = .ok (.invokevirtual 283, 3) := by decide +kernel
theorem dX12_laysRoutes_147 : decode cX12_laysRoutes 147 = .ok (.ifCond .eq 5, 3) := by decide +kernel
theorem dX12_laysRoutes_150 : decode cX12_laysRoutes 150 = .ok (.iconst 1, 1) := by decide +kernel
theorem dX12_laysRoutes_151 : decode cX12_laysRoutes 151 = .ok (.istore_n 1, 1) := by decide +kernel
theorem dX12_laysRoutes_152 : decode cX12_laysRoutes 152 = .ok (.iinc 3 1, 3) := by decide +kernel
theorem dX12_laysRoutes_155 : decode cX12_laysRoutes 155 = .ok (.goto (-74), 3) := by decide +kernel
theorem dX12_laysRoutes_158 : decode cX12_laysRoutes 158 = .ok (.iinc 2 1, 3) := by decide +kernel
theorem dX12_laysRoutes_161 : decode cX12_laysRoutes 161 = .ok (.goto (-90), 3) := by decide +kernel
theorem dX12_laysRoutes_164 : decode cX12_laysRoutes 164 = .ok (.goto (-101), 3) := by decide +kernel
theorem dX12_laysRoutes_167 : decode cX12_laysRoutes 167 = .ok (.return_, 1) := by decide +kernel
theorem dX12_bestEnd_0 : decode cX12_bestEnd 0 = .ok (.iconst (-1), 1) := by decide +kernel
theorem dX12_bestEnd_1 : decode cX12_bestEnd 1 = .ok (.istore_n 1, 1) := by decide +kernel
theorem dX12_bestEnd_2 : decode cX12_bestEnd 2 = .ok (.iconst 0, 1) := by decide +kernel
theorem dX12_bestEnd_3 : decode cX12_bestEnd 3 = .ok (.istore_n 2, 1) := by decide +kernel
theorem dX12_bestEnd_4 : decode cX12_bestEnd 4 = .ok (.iload_n 2, 1) := by decide +kernel
theorem dX12_bestEnd_5 : decode cX12_bestEnd 5 = .ok (.aload_n 0, 1) := by decide +kernel
theorem dX12_bestEnd_6 : decode cX12_bestEnd 6 = .ok (.getfield 135, 3) := by decide +kernel
theorem dX12_bestEnd_9 : decode cX12_bestEnd 9 = .ok (.if_icmp .ge 53, 3) := by decide +kernel
theorem dX12_bestEnd_12 : decode cX12_bestEnd 12 = .ok (.aload_n 0, 1) := by decide +kernel
theorem dX12_bestEnd_13 : decode cX12_bestEnd 13 = .ok (.iload_n 2, 1) := by decide +kernel
theorem dX12_bestEnd_14 : decode cX12_bestEnd 14 = .ok (.invokevirtual 249, 3) := by decide +kernel
theorem dX12_bestEnd_17 : decode cX12_bestEnd 17 = .ok (.ifCond .le 39, 3) := by decide +kernel
theorem dX12_bestEnd_20 : decode cX12_bestEnd 20 = .ok (.aload_n 0, 1) := by decide +kernel
theorem dX12_bestEnd_21 : decode cX12_bestEnd 21 = .ok (.getfield 48, 3) := by decide +kernel
