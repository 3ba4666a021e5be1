theorem dX12_bestEnd_24 : decode cX12_bestEnd 24 = .ok (.iload_n 2, 1) := by decide +kernel
theorem dX12_bestEnd_25 : decode cX12_bestEnd 25 = .ok (.iaload, 1) := by decide +kernel
theorem dX12_bestEnd_26 : decode cX12_bestEnd 26 = .ok (.ifCond .eq 30, 3) := by decide +kernel
theorem dX12_bestEnd_29 : decode cX12_bestEnd 29 = .ok (.aload_n 0, 1) := by decide +kernel
theorem dX12_bestEnd_30 : decode cX12_bestEnd 30 = .ok (.getfield 63, 3) := by decide +kernel
theorem dX12_bestEnd_33 : decode cX12_bestEnd 33 = .ok (.iload_n 2, 1) := by decide +kernel
theorem dX12_bestEnd_34 : decode cX12_bestEnd 34 = .ok (.iaload, 1) := by decide +kernel
theorem dX12_bestEnd_35 : decode cX12_bestEnd 35 = .ok (.ifCond .ne 6, 3) := by decide +kernel
theorem dX12_bestEnd_38 : decode cX12_bestEnd 38 = .ok (.goto 18, 3) := by decide +kernel
theorem dX12_bestEnd_41 : decode cX12_bestEnd 41 = .ok (.iload_n 1, 1) := by decide +kernel
theorem dX12_bestEnd_42 : decode cX12_bestEnd 42 = .ok (.ifCond .lt 12, 3) := by decide +kernel
theorem dX12_bestEnd_45 : decode cX12_bestEnd 45 = .ok (.aload_n 0, 1) := by decide +kernel
theorem dX12_bestEnd_46 : decode cX12_bestEnd 46 = .ok (.iload_n 2, 1) := by decide +kernel
theorem dX12_bestEnd_47 : decode cX12_bestEnd 47 = .ok (.iload_n 1, 1) := by decide +kernel
theorem dX12_bestEnd_48 : decode cX12_bestEnd 48 = .ok (.invokevirtual 286, 3) := by decide +kernel
theorem dX12_bestEnd_51 : decode cX12_bestEnd 51 = .ok (.ifCond .eq 5, 3) := by decide +kernel
theorem dX12_bestEnd_54 : decode cX12_bestEnd 54 = .ok (.iload_n 2, 1) := by decide +kernel
theorem dX12_bestEnd_55 : decode cX12_bestEnd 55 = .ok (.istore_n 1, 1) := by decide +kernel
theorem dX12_bestEnd_56 : decode cX12_bestEnd 56 = .ok (.iinc 2 1, 3) := by decide +kernel
theorem dX12_bestEnd_59 : decode cX12_bestEnd 59 = .ok (.goto (-55), 3) := by decide +kernel
theorem dX12_bestEnd_62 : decode cX12_bestEnd 62 = .ok (.iload_n 1, 1) := by decide +kernel
theorem dX12_bestEnd_63 : decode cX12_bestEnd 63 = .ok (.ireturn, 1) := by decide +kernel
theorem dX12_isAhead_0 : decode cX12_isAhead 0 = .ok (.aload_n 0, 1) := by decide +kernel
theorem dX12_isAhead_1 : decode cX12_isAhead 1 = .ok (.getfield 60, 3) := by decide +kernel
theorem dX12_isAhead_4 : decode cX12_isAhead 4 = .ok (.iload_n 1, 1) := by decide +kernel
theorem dX12_isAhead_5 : decode cX12_isAhead 5 = .ok (.iaload, 1) := by decide +kernel
theorem dX12_isAhead_6 : decode cX12_isAhead 6 = .ok (.aload_n 0, 1) := by decide +kernel
theorem dX12_isAhead_7 : decode cX12_isAhead 7 = .ok (.getfield 60, 3) := by decide +kernel
theorem dX12_isAhead_10 : decode cX12_isAhead 10 = .ok (.iload_n 2, 1) := by decide +kernel
theorem dX12_isAhead_11 : decode cX12_isAhead 11 = .ok (.iaload, 1) := by decide +kernel
theorem dX12_isAhead_12 : decode cX12_isAhead 12 = .ok (.if_icmp .eq 24, 3) := by decide +kernel
theorem dX12_isAhead_15 : decode cX12_isAhead 15 = .ok (.aload_n 0, 1) := by decide +kernel
theorem dX12_isAhead_16 : decode cX12_isAhead 16 = .ok (.getfield 60, 3) := by decide +kernel
theorem dX12_isAhead_19 : decode cX12_isAhead 19 = .ok (.iload_n 1, 1) := by decide +kernel
theorem dX12_isAhead_20 : decode cX12_isAhead 20 = .ok (.iaload, 1) := by decide +kernel
theorem dX12_isAhead_21 : decode cX12_isAhead 21 = .ok (.aload_n 0, 1) := by decide +kernel
theorem dX12_isAhead_22 : decode cX12_isAhead 22 = .ok (.getfield 60, 3) := by decide +kernel
theorem dX12_isAhead_25 : decode cX12_isAhead 25 = .ok (.iload_n 2, 1) := by decide +kernel
theorem dX12_isAhead_26 : decode cX12_isAhead 26 = .ok (.iaload, 1) := by decide +kernel
theorem dX12_isAhead_27 : decode cX12_isAhead 27 = .ok (.if_icmp .ge 7, 3) := by decide +kernel
theorem dX12_isAhead_30 : decode cX12_isAhead 30 = .ok (.iconst 1, 1) := by decide +kernel
theorem dX12_isAhead_31 : decode cX12_isAhead 31 = .ok (.goto 4, 3) := by decide +kernel
theorem dX12_isAhead_34 : decode cX12_isAhead 34 = .ok (.iconst 0, 1) := by decide +kernel
theorem dX12_isAhead_35 : decode cX12_isAhead 35 = .ok (.ireturn, 1) := by decide +kernel
theorem dX12_isAhead_36 : decode cX12_isAhead 36 = .ok (.aload_n 0, 1) := by decide +kernel
theorem dX12_isAhead_37 : decode cX12_isAhead 37 = .ok (.getfield 63, 3) := by decide +kernel
theorem dX12_isAhead_40 : decode cX12_isAhead 40 = .ok (.iload_n 1, 1) := by decide +kernel
theorem dX12_isAhead_41 : decode cX12_isAhead 41 = .ok (.iaload, 1) := by decide +kernel
theorem dX12_isAhead_42 : decode cX12_isAhead 42 = .ok (.aload_n 0, 1) := by decide +kernel
theorem dX12_isAhead_43 : decode cX12_isAhead 43 = .ok (.getfield 63, 3) := by decide +kernel
theorem dX12_isAhead_46 : decode cX12_isAhead 46 = .ok (.iload_n 2, 1) := by decide +kernel
theorem dX12_isAhead_47 : decode cX12_isAhead 47 = .ok (.iaload, 1) := by decide +kernel
theorem dX12_isAhead_48 : decode cX12_isAhead 48 = .ok (.if_icmp .eq 24, 3) := by decide +kernel
theorem dX12_isAhead_51 : decode cX12_isAhead 51 = .ok (.aload_n 0, 1) := by decide +kernel
theorem dX12_isAhead_52 : decode cX12_isAhead 52 = .ok (.getfield 63, 3) := by decide +kernel
theorem dX12_isAhead_55 : decode cX12_isAhead 55 = .ok (.iload_n 1, 1) := by decide +kernel
theorem dX12_isAhead_56 : decode cX12_isAhead 56 = .ok (.iaload, 1) := by decide +kernel
theorem dX12_isAhead_57 : decode cX12_isAhead 57 = .ok (.aload_n 0, 1) := by decide +kernel
theorem dX12_isAhead_58 : decode cX12_isAhead 58 = .ok (.getfield 63, 3) := by decide +kernel
theorem dX12_isAhead_61 : decode cX12_isAhead 61 = .ok (.iload_n 2, 1) := by decide +kernel
theorem dX12_isAhead_62 : decode cX12_isAhead 62 = .ok (.iaload, 1) := by decide +kernel
theorem dX12_isAhead_63 : decode cX12_isAhead 63 = .ok (.if_icmp .ge 7, 3) := by decide +kernel
theorem dX12_isAhead_66 : decode cX12_isAhead 66 = .ok (.iconst 1, 1) := by decide +kernel
theorem dX12_isAhead_67 : decode cX12_isAhead 67 = .ok (.goto 4, 3) := by decide +kernel
theorem dX12_isAhead_70 : decode cX12_isAhead 70 = .ok (.iconst 0, 1) := by decide +kernel
theorem dX12_isAhead_71 : decode cX12_isAhead 71 = .ok (.ireturn, 1) := by decide +kernel
theorem dX12_isAhead_72 : decode cX12_isAhead 72 = .ok (.iconst 0, 1) := by decide +kernel
theorem dX12_isAhead_73 : decode cX12_isAhead 73 = .ok (.istore_n 3, 1) := by decide +kernel
theorem dX12_isAhead_74 : decode cX12_isAhead 74 = .ok (.iload_n 3, 1) := by decide +kernel
theorem dX12_isAhead_75 : decode cX12_isAhead 75 = .ok (.aload_n 0, 1) := by decide +kernel
theorem dX12_isAhead_76 : decode cX12_isAhead 76 = .ok (.getfield 63, 3) := by decide +kernel
theorem dX12_isAhead_79 : decode cX12_isAhead 79 = .ok (.iload_n 1, 1) := by decide +kernel
theorem dX12_isAhead_80 : decode cX12_isAhead 80 = .ok (.iaload, 1) := by decide +kernel
theorem dX12_isAhead_81 : decode cX12_isAhead 81 = .ok (.if_icmp .ge 65, 3) := by decide +kernel
theorem dX12_isAhead_84 : decode cX12_isAhead 84 = .ok (.aload_n 0, 1) := by decide +kernel
theorem dX12_isAhead_85 : decode cX12_isAhead 85 = .ok (.getfield 66, 3) := by decide +kernel
theorem dX12_isAhead_88 : decode cX12_isAhead 88 = .ok (.bipush 12, 2) := by decide +kernel
theorem dX12_isAhead_90 : decode cX12_isAhead 90 = .ok (.iload_n 1, 1) := by decide +kernel
theorem dX12_isAhead_91 : decode cX12_isAhead 91 = .ok (.imul, 1) := by decide +kernel
theorem dX12_isAhead_92 : decode cX12_isAhead 92 = .ok (.iload_n 3, 1) := by decide +kernel
theorem dX12_isAhead_93 : decode cX12_isAhead 93 = .ok (.iadd, 1) := by decide +kernel
theorem dX12_isAhead_94 : decode cX12_isAhead 94 = .ok (.iaload, 1) := by decide +kernel
theorem dX12_isAhead_95 : decode cX12_isAhead 95 = .ok (.aload_n 0, 1) := by decide +kernel
theorem dX12_isAhead_96 : decode cX12_isAhead 96 = .ok (.getfield 66, 3) := by decide +kernel
theorem dX12_isAhead_99 : decode cX12_isAhead 99 = .ok (.bipush 12, 2) := by decide +kernel
theorem dX12_isAhead_101 : decode cX12_isAhead 101 = .ok (.iload_n 2, 1) := by decide +kernel
theorem dX12_isAhead_102 : decode cX12_isAhead 102 = .ok (.imul, 1) := by decide +kernel
theorem dX12_isAhead_103 : decode cX12_isAhead 103 = .ok (.iload_n 3, 1) := by decide +kernel
theorem dX12_isAhead_104 : decode cX12_isAhead 104 = .ok (.iadd, 1) := by decide +kernel
theorem dX12_isAhead_105 : decode cX12_isAhead 105 = .ok (.iaload, 1) := by decide +kernel
theorem dX12_isAhead_106 : decode cX12_isAhead 106 = .ok (.if_icmp .eq 34, 3) := by decide +kernel
theorem dX12_isAhead_109 : decode cX12_isAhead 109 = .ok (.aload_n 0, 1) := by decide +kernel
theorem dX12_isAhead_110 : decode cX12_isAhead 110 = .ok (.getfield 66, 3) := by decide +kernel
theorem dX12_isAhead_113 : decode cX12_isAhead 113 = .ok (.bipush 12, 2) := by decide +kernel
theorem dX12_isAhead_115 : decode cX12_isAhead 115 = .ok (.iload_n 1, 1) := by decide +kernel
theorem dX12_isAhead_116 : decode cX12_isAhead 116 = .ok (.imul, 1) := by decide +kernel
theorem dX12_isAhead_117 : decode cX12_isAhead 117 = .ok (.iload_n 3, 1) := by decide +kernel
theorem dX12_isAhead_118 : decode cX12_isAhead 118 = .ok (.iadd, 1) := by decide +kernel
theorem dX12_isAhead_119 : decode cX12_isAhead 119 = .ok (.iaload, 1) := by decide +kernel
theorem dX12_isAhead_120 : decode cX12_isAhead 120 = .ok (.aload_n 0, 1) := by decide +kernel
theorem dX12_isAhead_121 : decode cX12_isAhead 121 = .ok (.getfield 66, 3) := by decide +kernel
theorem dX12_isAhead_124 : decode cX12_isAhead 124 = .ok (.bipush 12, 2) := by decide +kernel
theorem dX12_isAhead_126 : decode cX12_isAhead 126 = .ok (.iload_n 2, 1) := by decide +kernel
theorem dX12_isAhead_127 : decode cX12_isAhead 127 = .ok (.imul, 1) := by decide +kernel
theorem dX12_isAhead_128 : decode cX12_isAhead 128 = .ok (.iload_n 3, 1) := by decide +kernel
theorem dX12_isAhead_129 : decode cX12_isAhead 129 = .ok (.iadd, 1) := by decide +kernel
theorem dX12_isAhead_130 : decode cX12_isAhead 130 = .ok (.iaload, 1) := by decide +kernel
theorem dX12_isAhead_131 : decode cX12_isAhead 131 = .ok (.if_icmp .ge 7, 3) := by decide +kernel
theorem dX12_isAhead_134 : decode cX12_isAhead 134 = .ok (.iconst 1, 1) := by decide +kernel
theorem dX12_isAhead_135 : decode cX12_isAhead 135 = .ok (.goto 4, 3) := by decide +kernel
theorem dX12_isAhead_138 : decode cX12_isAhead 138 = .ok (.iconst 0, 1) := by decide +kernel
theorem dX12_isAhead_139 : decode cX12_isAhead 139 = .ok (.ireturn, 1) := by decide +kernel
theorem dX12_isAhead_140 : decode cX12_isAhead 140 = .ok (.iinc 3 1, 3) := by decide +kernel
theorem dX12_isAhead_143 : decode cX12_isAhead 143 = .ok (.goto (-69), 3) := by decide +kernel
theorem dX12_isAhead_146 : decode cX12_isAhead 146 = .ok (.iconst 0, 1) := by decide +kernel
theorem dX12_isAhead_147 : decode cX12_isAhead 147 = .ok (.ireturn, 1) := by decide +kernel
theorem dX12_relieves_0 : decode cX12_relieves 0 = .ok (.iconst 0, 1) := by decide +kernel
theorem dX12_relieves_1 : decode cX12_relieves 1 = .ok (.istore_n 1, 1) := by decide +kernel
theorem dX12_relieves_2 : decode cX12_relieves 2 = .ok (.iload_n 1, 1) := by decide +kernel
theorem dX12_relieves_3 : decode cX12_relieves 3 = .ok (.sipush 144, 3) := by decide +kernel
theorem dX12_relieves_6 : decode cX12_relieves 6 = .ok (.if_icmp .ge 16, 3) := by decide +kernel
theorem dX12_relieves_9 : decode cX12_relieves 9 = .ok (.aload_n 0, 1) := by decide +kernel
theorem dX12_relieves_10 : decode cX12_relieves 10 = .ok (.getfield 54, 3) := by decide +kernel
theorem dX12_relieves_13 : decode cX12_relieves 13 = .ok (.iload_n 1, 1) := by decide +kernel
theorem dX12_relieves_14 : decode cX12_relieves 14 = .ok (.iconst 0, 1) := by decide +kernel
theorem dX12_relieves_15 : decode cX12_relieves 15 = .ok (.iastore, 1) := by decide +kernel
theorem dX12_relieves_16 : decode cX12_relieves 16 = .ok (.iinc 1 1, 3) := by decide +kernel
theorem dX12_relieves_19 : decode cX12_relieves 19 = .ok (.goto (-17), 3) := by decide +kernel
theorem dX12_relieves_22 : decode cX12_relieves 22 = .ok (.aload_n 0, 1) := by decide +kernel
theorem dX12_relieves_23 : decode cX12_relieves 23 = .ok (.iconst 0, 1) := by decide +kernel
theorem dX12_relieves_24 : decode cX12_relieves 24 = .ok (.putfield 289, 3) := by decide +kernel
theorem dX12_relieves_27 : decode cX12_relieves 27 = .ok (.iconst 0, 1) := by decide +kernel
theorem dX12_relieves_28 : decode cX12_relieves 28 = .ok (.istore_n 1, 1) := by decide +kernel
theorem dX12_relieves_29 : decode cX12_relieves 29 = .ok (.aload_n 0, 1) := by decide +kernel
theorem dX12_relieves_30 : decode cX12_relieves 30 = .ok (.invokevirtual 292, 3) := by decide +kernel
theorem dX12_relieves_33 : decode cX12_relieves 33 = .ok (.aload_n 0, 1) := by decide +kernel
theorem dX12_relieves_34 : decode cX12_relieves 34 = .ok (.invokevirtual 295, 3) := by decide +kernel
theorem dX12_relieves_37 : decode cX12_relieves 37 = .ok (.istore_n 2, 1) := by decide +kernel
theorem dX12_relieves_38 : decode cX12_relieves 38 = .ok (.iload_n 2, 1) := by decide +kernel
theorem dX12_relieves_39 : decode cX12_relieves 39 = .ok (.ifCond .ge 5, 3) := by decide +kernel
theorem dX12_relieves_42 : decode cX12_relieves 42 = .ok (.iload_n 1, 1) := by decide +kernel
theorem dX12_relieves_43 : decode cX12_relieves 43 = .ok (.ireturn, 1) := by decide +kernel
theorem dX12_relieves_44 : decode cX12_relieves 44 = .ok (.aload_n 0, 1) := by decide +kernel
theorem dX12_relieves_45 : decode cX12_relieves 45 = .ok (.getfield 66, 3) := by decide +kernel
theorem dX12_relieves_48 : decode cX12_relieves 48 = .ok (.bipush 12, 2) := by decide +kernel
theorem dX12_relieves_50 : decode cX12_relieves 50 = .ok (.iload_n 2, 1) := by decide +kernel
theorem dX12_relieves_51 : decode cX12_relieves 51 = .ok (.imul, 1) := by decide +kernel
theorem dX12_relieves_52 : decode cX12_relieves 52 = .ok (.iaload, 1) := by decide +kernel
theorem dX12_relieves_53 : decode cX12_relieves 53 = .ok (.istore_n 3, 1) := by decide +kernel
theorem dX12_relieves_54 : decode cX12_relieves 54 = .ok (.aload_n 0, 1) := by decide +kernel
theorem dX12_relieves_55 : decode cX12_relieves 55 = .ok (.getfield 48, 3) := by decide +kernel
theorem dX12_relieves_58 : decode cX12_relieves 58 = .ok (.iload_n 3, 1) := by decide +kernel
theorem dX12_relieves_59 : decode cX12_relieves 59 = .ok (.iaload, 1) := by decide +kernel
theorem dX12_relieves_60 : decode cX12_relieves 60 = .ok (.aload_n 0, 1) := by decide +kernel
theorem dX12_relieves_61 : decode cX12_relieves 61 = .ok (.getfield 48, 3) := by decide +kernel
theorem dX12_relieves_64 : decode cX12_relieves 64 = .ok (.iload_n 2, 1) := by decide +kernel
theorem dX12_relieves_65 : decode cX12_relieves 65 = .ok (.iaload, 1) := by decide +kernel
theorem dX12_relieves_66 : decode cX12_relieves 66 = .ok (.if_icmp .ge 12, 3) := by decide +kernel
theorem dX12_relieves_69 : decode cX12_relieves 69 = .ok (.aload_n 0, 1) := by decide +kernel
theorem dX12_relieves_70 : decode cX12_relieves 70 = .ok (.getfield 48, 3) := by decide +kernel
theorem dX12_relieves_73 : decode cX12_relieves 73 = .ok (.iload_n 3, 1) := by decide +kernel
theorem dX12_relieves_74 : decode cX12_relieves 74 = .ok (.iaload, 1) := by decide +kernel
theorem dX12_relieves_75 : decode cX12_relieves 75 = .ok (.goto 9, 3) := by decide +kernel
theorem dX12_relieves_78 : decode cX12_relieves 78 = .ok (.aload_n 0, 1) := by decide +kernel
theorem dX12_relieves_79 : decode cX12_relieves 79 = .ok (.getfield 48, 3) := by decide +kernel
theorem dX12_relieves_82 : decode cX12_relieves 82 = .ok (.iload_n 2, 1) := by decide +kernel
theorem dX12_relieves_83 : decode cX12_relieves 83 = .ok (.iaload, 1) := by decide +kernel
theorem dX12_relieves_84 : decode cX12_relieves 84 = .ok (.istore 4, 2) := by decide +kernel
theorem dX12_relieves_86 : decode cX12_relieves 86 = .ok (.iconst 1, 1) := by decide +kernel
theorem dX12_relieves_87 : decode cX12_relieves 87 = .ok (.istore 5, 2) := by decide +kernel
theorem dX12_relieves_89 : decode cX12_relieves 89 = .ok (.iload 5, 2) := by decide +kernel
theorem dX12_relieves_91 : decode cX12_relieves 91 = .ok (.aload_n 0, 1) := by decide +kernel
theorem dX12_relieves_92 : decode cX12_relieves 92 = .ok (.getfield 63, 3) := by decide +kernel
theorem dX12_relieves_95 : decode cX12_relieves 95 = .ok (.iload_n 2, 1) := by decide +kernel
theorem dX12_relieves_96 : decode cX12_relieves 96 = .ok (.iaload, 1) := by decide +kernel
theorem dX12_relieves_97 : decode cX12_relieves 97 = .ok (.if_icmp .ge 95, 3) := by decide +kernel
theorem dX12_relieves_100 : decode cX12_relieves 100 = .ok (.aload_n 0, 1) := by decide +kernel
theorem dX12_relieves_101 : decode cX12_relieves 101 = .ok (.getfield 66, 3) := by decide +kernel
theorem dX12_relieves_104 : decode cX12_relieves 104 = .ok (.bipush 12, 2) := by decide +kernel
theorem dX12_relieves_106 : decode cX12_relieves 106 = .ok (.iload_n 2, 1) := by decide +kernel
theorem dX12_relieves_107 : decode cX12_relieves 107 = .ok (.imul, 1) := by decide +kernel
theorem dX12_relieves_108 : decode cX12_relieves 108 = .ok (.iload 5, 2) := by decide +kernel
theorem dX12_relieves_110 : decode cX12_relieves 110 = .ok (.iadd, 1) := by decide +kernel
theorem dX12_relieves_111 : decode cX12_relieves 111 = .ok (.iconst 1, 1) := by decide +kernel
theorem dX12_relieves_112 : decode cX12_relieves 112 = .ok (.isub, 1) := by decide +kernel
theorem dX12_relieves_113 : decode cX12_relieves 113 = .ok (.iaload, 1) := by decide +kernel
theorem dX12_relieves_114 : decode cX12_relieves 114 = .ok (.istore 6, 2) := by decide +kernel
theorem dX12_relieves_116 : decode cX12_relieves 116 = .ok (.aload_n 0, 1) := by decide +kernel
theorem dX12_relieves_117 : decode cX12_relieves 117 = .ok (.getfield 66, 3) := by decide +kernel
theorem dX12_relieves_120 : decode cX12_relieves 120 = .ok (.bipush 12, 2) := by decide +kernel
theorem dX12_relieves_122 : decode cX12_relieves 122 = .ok (.iload_n 2, 1) := by decide +kernel
theorem dX12_relieves_123 : decode cX12_relieves 123 = .ok (.imul, 1) := by decide +kernel
theorem dX12_relieves_124 : decode cX12_relieves 124 = .ok (.iload 5, 2) := by decide +kernel
theorem dX12_relieves_126 : decode cX12_relieves 126 = .ok (.iadd, 1) := by decide +kernel
theorem dX12_relieves_127 : decode cX12_relieves 127 = .ok (.iaload, 1) := by decide +kernel
theorem dX12_relieves_128 : decode cX12_relieves 128 = .ok (.istore 7, 2) := by decide +kernel
theorem dX12_relieves_130 : decode cX12_relieves 130 = .ok (.aload_n 0, 1) := by decide +kernel
theorem dX12_relieves_131 : decode cX12_relieves 131 = .ok (.iload 6, 2) := by decide +kernel
theorem dX12_relieves_133 : decode cX12_relieves 133 = .ok (.invokevirtual 249, 3) := by decide +kernel
theorem dX12_relieves_136 : decode cX12_relieves 136 = .ok (.ifCond .ge 19, 3) := by decide +kernel
theorem dX12_relieves_139 : decode cX12_relieves 139 = .ok (.aload_n 0, 1) := by decide +kernel
theorem dX12_relieves_140 : decode cX12_relieves 140 = .ok (.getfield 51, 3) := by decide +kernel
theorem dX12_relieves_143 : decode cX12_relieves 143 = .ok (.bipush 12, 2) := by decide +kernel
theorem dX12_relieves_145 : decode cX12_relieves 145 = .ok (.iload 6, 2) := by decide +kernel
theorem dX12_relieves_147 : decode cX12_relieves 147 = .ok (.imul, 1) := by decide +kernel
theorem dX12_relieves_148 : decode cX12_relieves 148 = .ok (.iload 7, 2) := by decide +kernel
theorem dX12_relieves_150 : decode cX12_relieves 150 = .ok (.iadd, 1) := by decide +kernel
theorem dX12_relieves_151 : decode cX12_relieves 151 = .ok (.iaload, 1) := by decide +kernel
theorem dX12_relieves_152 : decode cX12_relieves 152 = .ok (.goto 16, 3) := by decide +kernel
theorem dX12_relieves_155 : decode cX12_relieves 155 = .ok (.aload_n 0, 1) := by decide +kernel
theorem dX12_relieves_156 : decode cX12_relieves 156 = .ok (.getfield 54, 3) := by decide +kernel
theorem dX12_relieves_159 : decode cX12_relieves 159 = .ok (.bipush 12, 2) := by decide +kernel
theorem dX12_relieves_161 : decode cX12_relieves 161 = .ok (.iload 7, 2) := by decide +kernel
theorem dX12_relieves_163 : decode cX12_relieves 163 = .ok (.imul, 1) := by decide +kernel
theorem dX12_relieves_164 : decode cX12_relieves 164 = .ok (.iload 6, 2) := by decide +kernel
theorem dX12_relieves_166 : decode cX12_relieves 166 = .ok (.iadd, 1) := by decide +kernel
theorem dX12_relieves_167 : decode cX12_relieves 167 = .ok (.iaload, 1) := by decide +kernel
theorem dX12_relieves_168 : decode cX12_relieves 168 = .ok (.istore 8, 2) := by decide +kernel
theorem dX12_relieves_170 : decode cX12_relieves 170 = .ok (.iload 8, 2) := by decide +kernel
theorem dX12_relieves_172 : decode cX12_relieves 172 = .ok (.iload 4, 2) := by decide +kernel
theorem dX12_relieves_174 : decode cX12_relieves 174 = .ok (.if_icmp .ge 8, 3) := by decide +kernel
theorem dX12_relieves_177 : decode cX12_relieves 177 = .ok (.iload 8, 2) := by decide +kernel
theorem dX12_relieves_179 : decode cX12_relieves 179 = .ok (.goto 5, 3) := by decide +kernel
theorem dX12_relieves_182 : decode cX12_relieves 182 = .ok (.iload 4, 2) := by decide +kernel
theorem dX12_relieves_184 : decode cX12_relieves 184 = .ok (.istore 4, 2) := by decide +kernel
theorem dX12_relieves_186 : decode cX12_relieves 186 = .ok (.iinc 5 1, 3) := by decide +kernel
theorem dX12_relieves_189 : decode cX12_relieves 189 = .ok (.goto (-100), 3) := by decide +kernel
theorem dX12_relieves_192 : decode cX12_relieves 192 = .ok (.iconst 1, 1) := by decide +kernel
theorem dX12_relieves_193 : decode cX12_relieves 193 = .ok (.istore 5, 2) := by decide +kernel
theorem dX12_relieves_195 : decode cX12_relieves 195 = .ok (.iload 5, 2) := by decide +kernel
theorem dX12_relieves_197 : decode cX12_relieves 197 = .ok (.aload_n 0, 1) := by decide +kernel
theorem dX12_relieves_198 : decode cX12_relieves 198 = .ok (.getfield 63, 3) := by decide +kernel
theorem dX12_relieves_201 : decode cX12_relieves 201 = .ok (.iload_n 2, 1) := by decide +kernel
theorem dX12_relieves_202 : decode cX12_relieves 202 = .ok (.iaload, 1) := by decide +kernel
theorem dX12_relieves_203 : decode cX12_relieves 203 = .ok (.if_icmp .ge 112, 3) := by decide +kernel
theorem dX12_relieves_206 : decode cX12_relieves 206 = .ok (.aload_n 0, 1) := by decide +kernel
theorem dX12_relieves_207 : decode cX12_relieves 207 = .ok (.getfield 66, 3) := by decide +kernel
theorem dX12_relieves_210 : decode cX12_relieves 210 = .ok (.bipush 12, 2) := by decide +kernel
theorem dX12_relieves_212 : decode cX12_relieves 212 = .ok (.iload_n 2, 1) := by decide +kernel
theorem dX12_relieves_213 : decode cX12_relieves 213 = .ok (.imul, 1) := by decide +kernel
theorem dX12_relieves_214 : decode cX12_relieves 214 = .ok (.iload 5, 2) := by decide +kernel
theorem dX12_relieves_216 : decode cX12_relieves 216 = .ok (.iadd, 1) := by decide +kernel
theorem dX12_relieves_217 : decode cX12_relieves 217 = .ok (.iconst 1, 1) := by decide +kernel
theorem dX12_relieves_218 : decode cX12_relieves 218 = .ok (.isub, 1) := by decide +kernel
theorem dX12_relieves_219 : decode cX12_relieves 219 = .ok (.iaload, 1) := by decide +kernel
theorem dX12_relieves_220 : decode cX12_relieves 220 = .ok (.istore 6, 2) := by decide +kernel
theorem dX12_relieves_222 : decode cX12_relieves 222 = .ok (.aload_n 0, 1) := by decide +kernel
theorem dX12_relieves_223 : decode cX12_relieves 223 = .ok (.getfield 66, 3) := by decide +kernel
theorem dX12_relieves_226 : decode cX12_relieves 226 = .ok (.bipush 12, 2) := by decide +kernel
theorem dX12_relieves_228 : decode cX12_relieves 228 = .ok (.iload_n 2, 1) := by decide +kernel
theorem dX12_relieves_229 : decode cX12_relieves 229 = .ok (.imul, 1) := by decide +kernel
theorem dX12_relieves_230 : decode cX12_relieves 230 = .ok (.iload 5, 2) := by decide +kernel
theorem dX12_relieves_232 : decode cX12_relieves 232 = .ok (.iadd, 1) := by decide +kernel
theorem dX12_relieves_233 : decode cX12_relieves 233 = .ok (.iaload, 1) := by decide +kernel
theorem dX12_relieves_234 : decode cX12_relieves 234 = .ok (.istore 7, 2) := by decide +kernel
theorem dX12_relieves_236 : decode cX12_relieves 236 = .ok (.aload_n 0, 1) := by decide +kernel
theorem dX12_relieves_237 : decode cX12_relieves 237 = .ok (.iload 6, 2) := by decide +kernel
theorem dX12_relieves_239 : decode cX12_relieves 239 = .ok (.invokevirtual 249, 3) := by decide +kernel
theorem dX12_relieves_242 : decode cX12_relieves 242 = .ok (.ifCond .ge 14, 3) := by decide +kernel
theorem dX12_relieves_245 : decode cX12_relieves 245 = .ok (.bipush 12, 2) := by decide +kernel
theorem dX12_relieves_247 : decode cX12_relieves 247 = .ok (.iload 6, 2) := by decide +kernel
theorem dX12_relieves_249 : decode cX12_relieves 249 = .ok (.imul, 1) := by decide +kernel
theorem dX12_relieves_250 : decode cX12_relieves 250 = .ok (.iload 7, 2) := by decide +kernel
theorem dX12_relieves_252 : decode cX12_relieves 252 = .ok (.iadd, 1) := by decide +kernel
theorem dX12_relieves_253 : decode cX12_relieves 253 = .ok (.goto 11, 3) := by decide +kernel
theorem dX12_relieves_256 : decode cX12_relieves 256 = .ok (.bipush 12, 2) := by decide +kernel
theorem dX12_relieves_258 : decode cX12_relieves 258 = .ok (.iload 7, 2) := by decide +kernel
theorem dX12_relieves_260 : decode cX12_relieves 260 = .ok (.imul, 1) := by decide +kernel
theorem dX12_relieves_261 : decode cX12_relieves 261 = .ok (.iload 6, 2) := by decide +kernel
theorem dX12_relieves_263 : decode cX12_relieves 263 = .ok (.iadd, 1) := by decide +kernel
theorem dX12_relieves_264 : decode cX12_relieves 264 = .ok (.istore 8, 2) := by decide +kernel
theorem dX12_relieves_266 : decode cX12_relieves 266 = .ok (.aload_n 0, 1) := by decide +kernel
theorem dX12_relieves_267 : decode cX12_relieves 267 = .ok (.iload 6, 2) := by decide +kernel
theorem dX12_relieves_269 : decode cX12_relieves 269 = .ok (.invokevirtual 249, 3) := by decide +kernel
theorem dX12_relieves_272 : decode cX12_relieves 272 = .ok (.ifCond .ge 8, 3) := by decide +kernel
theorem dX12_relieves_275 : decode cX12_relieves 275 = .ok (.iload 4, 2) := by decide +kernel
theorem dX12_relieves_277 : decode cX12_relieves 277 = .ok (.goto 6, 3) := by decide +kernel
theorem dX12_relieves_280 : decode cX12_relieves 280 = .ok (.iload 4, 2) := by decide +kernel
theorem dX12_relieves_282 : decode cX12_relieves 282 = .ok (.ineg, 1) := by decide +kernel
theorem dX12_relieves_283 : decode cX12_relieves 283 = .ok (.istore 9, 2) := by decide +kernel
theorem dX12_relieves_285 : decode cX12_relieves 285 = .ok (.aload_n 0, 1) := by decide +kernel
theorem dX12_relieves_286 : decode cX12_relieves 286 = .ok (.getfield 54, 3) := by decide +kernel
theorem dX12_relieves_289 : decode cX12_relieves 289 = .ok (.iload 8, 2) := by decide +kernel
theorem dX12_relieves_291 : decode cX12_relieves 291 = .ok (.dup2, 1) := by decide +kernel
theorem dX12_relieves_292 : decode cX12_relieves 292 = .ok (.iaload, 1) := by decide +kernel
theorem dX12_relieves_293 : decode cX12_relieves 293 = .ok (.iload 9, 2) := by decide +kernel
theorem dX12_relieves_295 : decode cX12_relieves 295 = .ok (.iadd, 1) := by decide +kernel
theorem dX12_relieves_296 : decode cX12_relieves 296 = .ok (.iastore, 1) := by decide +kernel
theorem dX12_relieves_297 : decode cX12_relieves 297 = .ok (.aload_n 0, 1) := by decide +kernel
theorem dX12_relieves_298 : decode cX12_relieves 298 = .ok (.getfield 51, 3) := by decide +kernel
theorem dX12_relieves_301 : decode cX12_relieves 301 = .ok (.iload 8, 2) := by decide +kernel
theorem dX12_relieves_303 : decode cX12_relieves 303 = .ok (.dup2, 1) := by decide +kernel
theorem dX12_relieves_304 : decode cX12_relieves 304 = .ok (.iaload, 1) := by decide +kernel
theorem dX12_relieves_305 : decode cX12_relieves 305 = .ok (.iload 9, 2) := by decide +kernel
theorem dX12_relieves_307 : decode cX12_relieves 307 = .ok (.isub, 1) := by decide +kernel
theorem dX12_relieves_308 : decode cX12_relieves 308 = .ok (.iastore, 1) := by decide +kernel
theorem dX12_relieves_309 : decode cX12_relieves 309 = .ok (.iinc 5 1, 3) := by decide +kernel
theorem dX12_relieves_312 : decode cX12_relieves 312 = .ok (.goto (-117), 3) := by decide +kernel
theorem dX12_relieves_315 : decode cX12_relieves 315 = .ok (.aload_n 0, 1) := by decide +kernel
theorem dX12_relieves_316 : decode cX12_relieves 316 = .ok (.getfield 48, 3) := by decide +kernel
theorem dX12_relieves_319 : decode cX12_relieves 319 = .ok (.iload_n 3, 1) := by decide +kernel
theorem dX12_relieves_320 : decode cX12_relieves 320 = .ok (.dup2, 1) := by decide +kernel
theorem dX12_relieves_321 : decode cX12_relieves 321 = .ok (.iaload, 1) := by decide +kernel
theorem dX12_relieves_322 : decode cX12_relieves 322 = .ok (.iload 4, 2) := by decide +kernel
theorem dX12_relieves_324 : decode cX12_relieves 324 = .ok (.isub, 1) := by decide +kernel
theorem dX12_relieves_325 : decode cX12_relieves 325 = .ok (.iastore, 1) := by decide +kernel
theorem dX12_relieves_326 : decode cX12_relieves 326 = .ok (.aload_n 0, 1) := by decide +kernel
theorem dX12_relieves_327 : decode cX12_relieves 327 = .ok (.getfield 48, 3) := by decide +kernel
theorem dX12_relieves_330 : decode cX12_relieves 330 = .ok (.iload_n 2, 1) := by decide +kernel
theorem dX12_relieves_331 : decode cX12_relieves 331 = .ok (.dup2, 1) := by decide +kernel
theorem dX12_relieves_332 : decode cX12_relieves 332 = .ok (.iaload, 1) := by decide +kernel
theorem dX12_relieves_333 : decode cX12_relieves 333 = .ok (.iload 4, 2) := by decide +kernel
theorem dX12_relieves_335 : decode cX12_relieves 335 = .ok (.isub, 1) := by decide +kernel
theorem dX12_relieves_336 : decode cX12_relieves 336 = .ok (.iastore, 1) := by decide +kernel
theorem dX12_relieves_337 : decode cX12_relieves 337 = .ok (.iload_n 1, 1) := by decide +kernel
theorem dX12_relieves_338 : decode cX12_relieves 338 = .ok (.iload 4, 2) := by decide +kernel
theorem dX12_relieves_340 : decode cX12_relieves 340 = .ok (.iadd, 1) := by decide +kernel
theorem dX12_relieves_341 : decode cX12_relieves 341 = .ok (.istore_n 1, 1) := by decide +kernel
theorem dX12_relieves_342 : decode cX12_relieves 342 = .ok (.aload_n 0, 1) := by decide +kernel
theorem dX12_relieves_343 : decode cX12_relieves 343 = .ok (.dup, 1) := by decide +kernel
theorem dX12_relieves_344 : decode cX12_relieves 344 = .ok (.getfield 289, 3) := by decide +kernel
theorem dX12_relieves_347 : decode cX12_relieves 347 = .ok (.iconst 1, 1) := by decide +kernel
theorem dX12_relieves_348 : decode cX12_relieves 348 = .ok (.iadd, 1) := by decide +kernel
theorem dX12_relieves_349 : decode cX12_relieves 349 = .ok (.putfield 289, 3) := by decide +kernel
theorem dX12_relieves_352 : decode cX12_relieves 352 = .ok (.goto (-323), 3) := by decide +kernel
theorem dX12_solves_0 : decode cX12_solves 0 = .ok (.aload_n 0, 1) := by decide +kernel
theorem dX12_solves_1 : decode cX12_solves 1 = .ok (.aload_n 0, 1) := by decide +kernel
theorem dX12_solves_2 : decode cX12_solves 2 = .ok (.getfield 29, 3) := by decide +kernel
theorem dX12_solves_5 : decode cX12_solves 5 = .ok (.iconst 0, 1) := by decide +kernel
theorem dX12_solves_6 : decode cX12_solves 6 = .ok (.iaload, 1) := by decide +kernel
theorem dX12_solves_7 : decode cX12_solves 7 = .ok (.iconst 1, 1) := by decide +kernel
theorem dX12_solves_8 : decode cX12_solves 8 = .ok (.invokevirtual 299, 3) := by decide +kernel
theorem dX12_solves_11 : decode cX12_solves 11 = .ok (.aload_n 0, 1) := by decide +kernel
theorem dX12_solves_12 : decode cX12_solves 12 = .ok (.invokevirtual 303, 3) := by decide +kernel
theorem dX12_solves_15 : decode cX12_solves 15 = .ok (.ireturn, 1) := by decide +kernel
theorem dX12_claim_0 : decode cX12_claim 0 = .ok (.aload_n 0, 1) := by decide +kernel
theorem dX12_claim_1 : decode cX12_claim 1 = .ok (.iconst 0, 1) := by decide +kernel
theorem dX12_claim_2 : decode cX12_claim 2 = .ok (.putfield 81, 3) := by decide +kernel
theorem dX12_claim_5 : decode cX12_claim 5 = .ok (.aload_n 0, 1) := by decide +kernel
theorem dX12_claim_6 : decode cX12_claim 6 = .ok (.iload_n 1, 1) := by decide +kernel
theorem dX12_claim_7 : decode cX12_claim 7 = .ok (.iload_n 2, 1) := by decide +kernel
theorem dX12_claim_8 : decode cX12_claim 8 = .ok (.invokevirtual 267, 3) := by decide +kernel
theorem dX12_claim_11 : decode cX12_claim 11 = .ok (.ifCond .eq 13, 3) := by decide +kernel
theorem dX12_claim_14 : decode cX12_claim 14 = .ok (.iload_n 3, 1) := by decide +kernel
theorem dX12_claim_15 : decode cX12_claim 15 = .ok (.iconst 1, 1) := by decide +kernel
theorem dX12_claim_16 : decode cX12_claim 16 = .ok (.ldc 119, 2) := by decide +kernel
theorem dX12_claim_18 : decode cX12_claim 18 = .ok (.invokestatic 165, 3) := by decide +kernel
theorem dX12_claim_21 : decode cX12_claim 21 = .ok (.ifCond .ne 5, 3) := by decide +kernel
theorem dX12_claim_24 : decode cX12_claim 24 = .ok (.iconst (-1), 1) := by decide +kernel
theorem dX12_claim_25 : decode cX12_claim 25 = .ok (.ireturn, 1) := by decide +kernel
theorem dX12_claim_26 : decode cX12_claim 26 = .ok (.aload_n 0, 1) := by decide +kernel
theorem dX12_claim_27 : decode cX12_claim 27 = .ok (.iconst 0, 1) := by decide +kernel
theorem dX12_claim_28 : decode cX12_claim 28 = .ok (.invokevirtual 209, 3) := by decide +kernel
theorem dX12_claim_31 : decode cX12_claim 31 = .ok (.bipush 30, 2) := by decide +kernel
theorem dX12_claim_33 : decode cX12_claim 33 = .ok (.if_icmp .ne 6, 3) := by decide +kernel
theorem dX12_claim_36 : decode cX12_claim 36 = .ok (.bipush (-2), 2) := by decide +kernel
theorem dX12_claim_38 : decode cX12_claim 38 = .ok (.ireturn, 1) := by decide +kernel
theorem dX12_claim_39 : decode cX12_claim 39 = .ok (.aload_n 0, 1) := by decide +kernel
theorem dX12_claim_40 : decode cX12_claim 40 = .ok (.aload_n 0, 1) := by decide +kernel
theorem dX12_claim_41 : decode cX12_claim 41 = .ok (.getfield 29, 3) := by decide +kernel
theorem dX12_claim_44 : decode cX12_claim 44 = .ok (.iconst 0, 1) := by decide +kernel
theorem dX12_claim_45 : decode cX12_claim 45 = .ok (.iaload, 1) := by decide +kernel
theorem dX12_claim_46 : decode cX12_claim 46 = .ok (.invokevirtual 261, 3) := by decide +kernel
theorem dX12_claim_49 : decode cX12_claim 49 = .ok (.aload_n 0, 1) := by decide +kernel
theorem dX12_claim_50 : decode cX12_claim 50 = .ok (.iload_n 1, 1) := by decide +kernel
theorem dX12_claim_51 : decode cX12_claim 51 = .ok (.iload_n 2, 1) := by decide +kernel
theorem dX12_claim_52 : decode cX12_claim 52 = .ok (.iload_n 3, 1) := by decide +kernel
theorem dX12_claim_53 : decode cX12_claim 53 = .ok (.invokevirtual 306, 3) := by decide +kernel
theorem dX12_claim_56 : decode cX12_claim 56 = .ok (.ifCond .ne 6, 3) := by decide +kernel
theorem dX12_claim_59 : decode cX12_claim 59 = .ok (.bipush (-3), 2) := by decide +kernel
theorem dX12_claim_61 : decode cX12_claim 61 = .ok (.ireturn, 1) := by decide +kernel
theorem dX12_claim_62 : decode cX12_claim 62 = .ok (.aload_n 0, 1) := by decide +kernel
theorem dX12_claim_63 : decode cX12_claim 63 = .ok (.invokevirtual 309, 3) := by decide +kernel
theorem dX12_claim_66 : decode cX12_claim 66 = .ok (.aload_n 0, 1) := by decide +kernel
theorem dX12_claim_67 : decode cX12_claim 67 = .ok (.iload_n 1, 1) := by decide +kernel
theorem dX12_claim_68 : decode cX12_claim 68 = .ok (.iload_n 2, 1) := by decide +kernel
theorem dX12_claim_69 : decode cX12_claim 69 = .ok (.iload_n 3, 1) := by decide +kernel
theorem dX12_claim_70 : decode cX12_claim 70 = .ok (.invokevirtual 312, 3) := by decide +kernel
theorem dX12_claim_73 : decode cX12_claim 73 = .ok (.aload_n 0, 1) := by decide +kernel
theorem dX12_claim_74 : decode cX12_claim 74 = .ok (.iconst 0, 1) := by decide +kernel
theorem dX12_claim_75 : decode cX12_claim 75 = .ok (.invokevirtual 209, 3) := by decide +kernel
theorem dX12_claim_78 : decode cX12_claim 78 = .ok (.iconst 1, 1) := by decide +kernel
theorem dX12_claim_79 : decode cX12_claim 79 = .ok (.isub, 1) := by decide +kernel
theorem dX12_claim_80 : decode cX12_claim 80 = .ok (.ireturn, 1) := by decide +kernel
theorem dX12_canClaim_0 : decode cX12_canClaim 0 = .ok (.iload_n 3, 1) := by decide +kernel
theorem dX12_canClaim_1 : decode cX12_canClaim 1 = .ok (.aload_n 0, 1) := by decide +kernel
theorem dX12_canClaim_2 : decode cX12_canClaim 2 = .ok (.iload_n 1, 1) := by decide +kernel
theorem dX12_canClaim_3 : decode cX12_canClaim 3 = .ok (.iload_n 2, 1) := by decide +kernel
theorem dX12_canClaim_4 : decode cX12_canClaim 4 = .ok (.invokevirtual 270, 3) := by decide +kernel
theorem dX12_canClaim_7 : decode cX12_canClaim 7 = .ok (.aload_n 0, 1) := by decide +kernel
theorem dX12_canClaim_8 : decode cX12_canClaim 8 = .ok (.iload_n 1, 1) := by decide +kernel
theorem dX12_canClaim_9 : decode cX12_canClaim 9 = .ok (.iload_n 2, 1) := by decide +kernel
theorem dX12_canClaim_10 : decode cX12_canClaim 10 = .ok (.invokevirtual 273, 3) := by decide +kernel
theorem dX12_canClaim_13 : decode cX12_canClaim 13 = .ok (.isub, 1) := by decide +kernel
theorem dX12_canClaim_14 : decode cX12_canClaim 14 = .ok (.if_icmp .gt 25, 3) := by decide +kernel
theorem dX12_canClaim_17 : decode cX12_canClaim 17 = .ok (.iload_n 3, 1) := by decide +kernel
theorem dX12_canClaim_18 : decode cX12_canClaim 18 = .ok (.aload_n 0, 1) := by decide +kernel
theorem dX12_canClaim_19 : decode cX12_canClaim 19 = .ok (.iload_n 1, 1) := by decide +kernel
theorem dX12_canClaim_20 : decode cX12_canClaim 20 = .ok (.invokevirtual 264, 3) := by decide +kernel
theorem dX12_canClaim_23 : decode cX12_canClaim 23 = .ok (.if_icmp .gt 16, 3) := by decide +kernel
theorem dX12_canClaim_26 : decode cX12_canClaim 26 = .ok (.iload_n 3, 1) := by decide +kernel
theorem dX12_canClaim_27 : decode cX12_canClaim 27 = .ok (.aload_n 0, 1) := by decide +kernel
theorem dX12_canClaim_28 : decode cX12_canClaim 28 = .ok (.iload_n 2, 1) := by decide +kernel
theorem dX12_canClaim_29 : decode cX12_canClaim 29 = .ok (.invokevirtual 264, 3) := by decide +kernel
theorem dX12_canClaim_32 : decode cX12_canClaim 32 = .ok (.if_icmp .gt 7, 3) := by decide +kernel
theorem dX12_canClaim_35 : decode cX12_canClaim 35 = .ok (.iconst 1, 1) := by decide +kernel
theorem dX12_canClaim_36 : decode cX12_canClaim 36 = .ok (.goto 4, 3) := by decide +kernel
theorem dX12_canClaim_39 : decode cX12_canClaim 39 = .ok (.iconst 0, 1) := by decide +kernel
theorem dX12_canClaim_40 : decode cX12_canClaim 40 = .ok (.ireturn, 1) := by decide +kernel
theorem dX12_claims_0 : decode cX12_claims 0 = .ok (.iconst 1, 1) := by decide +kernel
theorem dX12_claims_1 : decode cX12_claims 1 = .ok (.iconst 3, 1) := by decide +kernel
theorem dX12_claims_2 : decode cX12_claims 2 = .ok (.aload_n 0, 1) := by decide +kernel
theorem dX12_claims_3 : decode cX12_claims 3 = .ok (.iconst 0, 1) := by decide +kernel
theorem dX12_claims_4 : decode cX12_claims 4 = .ok (.invokevirtual 209, 3) := by decide +kernel
theorem dX12_claims_7 : decode cX12_claims 7 = .ok (.imul, 1) := by decide +kernel
theorem dX12_claims_8 : decode cX12_claims 8 = .ok (.iadd, 1) := by decide +kernel
theorem dX12_claims_9 : decode cX12_claims 9 = .ok (.istore 4, 2) := by decide +kernel
theorem dX12_claims_11 : decode cX12_claims 11 = .ok (.aload_n 0, 1) := by decide +kernel
theorem dX12_claims_12 : decode cX12_claims 12 = .ok (.iload 4, 2) := by decide +kernel
theorem dX12_claims_14 : decode cX12_claims 14 = .ok (.iload_n 1, 1) := by decide +kernel
theorem dX12_claims_15 : decode cX12_claims 15 = .ok (.invokevirtual 158, 3) := by decide +kernel
theorem dX12_claims_18 : decode cX12_claims 18 = .ok (.aload_n 0, 1) := by decide +kernel
theorem dX12_claims_19 : decode cX12_claims 19 = .ok (.iload 4, 2) := by decide +kernel
theorem dX12_claims_21 : decode cX12_claims 21 = .ok (.iconst 1, 1) := by decide +kernel
theorem dX12_claims_22 : decode cX12_claims 22 = .ok (.iadd, 1) := by decide +kernel
theorem dX12_claims_23 : decode cX12_claims 23 = .ok (.iload_n 2, 1) := by decide +kernel
theorem dX12_claims_24 : decode cX12_claims 24 = .ok (.invokevirtual 158, 3) := by decide +kernel
theorem dX12_claims_27 : decode cX12_claims 27 = .ok (.aload_n 0, 1) := by decide +kernel
theorem dX12_claims_28 : decode cX12_claims 28 = .ok (.iload 4, 2) := by decide +kernel
theorem dX12_claims_30 : decode cX12_claims 30 = .ok (.iconst 2, 1) := by decide +kernel
theorem dX12_claims_31 : decode cX12_claims 31 = .ok (.iadd, 1) := by decide +kernel
theorem dX12_claims_32 : decode cX12_claims 32 = .ok (.iload_n 3, 1) := by decide +kernel
theorem dX12_claims_33 : decode cX12_claims 33 = .ok (.invokevirtual 158, 3) := by decide +kernel
theorem dX12_claims_36 : decode cX12_claims 36 = .ok (.aload_n 0, 1) := by decide +kernel
theorem dX12_claims_37 : decode cX12_claims 37 = .ok (.iconst 0, 1) := by decide +kernel
theorem dX12_claims_38 : decode cX12_claims 38 = .ok (.aload_n 0, 1) := by decide +kernel
theorem dX12_claims_39 : decode cX12_claims 39 = .ok (.iconst 0, 1) := by decide +kernel
theorem dX12_claims_40 : decode cX12_claims 40 = .ok (.invokevirtual 209, 3) := by decide +kernel
theorem dX12_claims_43 : decode cX12_claims 43 = .ok (.iconst 1, 1) := by decide +kernel
theorem dX12_claims_44 : decode cX12_claims 44 = .ok (.iadd, 1) := by decide +kernel
theorem dX12_claims_45 : decode cX12_claims 45 = .ok (.invokevirtual 158, 3) := by decide +kernel
theorem dX12_claims_48 : decode cX12_claims 48 = .ok (.return_, 1) := by decide +kernel
theorem dX12_isClaim_0 : decode cX12_isClaim 0 = .ok (.iload_n 1, 1) := by decide +kernel
theorem dX12_isClaim_1 : decode cX12_isClaim 1 = .ok (.ifCond .lt 16, 3) := by decide +kernel
theorem dX12_isClaim_4 : decode cX12_isClaim 4 = .ok (.iload_n 1, 1) := by decide +kernel
theorem dX12_isClaim_5 : decode cX12_isClaim 5 = .ok (.aload_n 0, 1) := by decide +kernel
theorem dX12_isClaim_6 : decode cX12_isClaim 6 = .ok (.iconst 0, 1) := by decide +kernel
theorem dX12_isClaim_7 : decode cX12_isClaim 7 = .ok (.invokevirtual 209, 3) := by decide +kernel
theorem dX12_isClaim_10 : decode cX12_isClaim 10 = .ok (.if_icmp .ge 7, 3) := by decide +kernel
theorem dX12_isClaim_13 : decode cX12_isClaim 13 = .ok (.iconst 1, 1) := by decide +kernel
theorem dX12_isClaim_14 : decode cX12_isClaim 14 = .ok (.goto 4, 3) := by decide +kernel
theorem dX12_isClaim_17 : decode cX12_isClaim 17 = .ok (.iconst 0, 1) := by decide +kernel
theorem dX12_isClaim_18 : decode cX12_isClaim 18 = .ok (.ireturn, 1) := by decide +kernel
theorem dX12_withdraw_0 : decode cX12_withdraw 0 = .ok (.aload_n 0, 1) := by decide +kernel
theorem dX12_withdraw_1 : decode cX12_withdraw 1 = .ok (.iconst 0, 1) := by decide +kernel
theorem dX12_withdraw_2 : decode cX12_withdraw 2 = .ok (.putfield 81, 3) := by decide +kernel
theorem dX12_withdraw_5 : decode cX12_withdraw 5 = .ok (.aload_n 0, 1) := by decide +kernel
theorem dX12_withdraw_6 : decode cX12_withdraw 6 = .ok (.iload_n 1, 1) := by decide +kernel
theorem dX12_withdraw_7 : decode cX12_withdraw 7 = .ok (.invokevirtual 316, 3) := by decide +kernel
theorem dX12_withdraw_10 : decode cX12_withdraw 10 = .ok (.ifCond .ne 5, 3) := by decide +kernel
theorem dX12_withdraw_13 : decode cX12_withdraw 13 = .ok (.iconst (-1), 1) := by decide +kernel
theorem dX12_withdraw_14 : decode cX12_withdraw 14 = .ok (.ireturn, 1) := by decide +kernel
theorem dX12_withdraw_15 : decode cX12_withdraw 15 = .ok (.aload_n 0, 1) := by decide +kernel
theorem dX12_withdraw_16 : decode cX12_withdraw 16 = .ok (.invokevirtual 309, 3) := by decide +kernel
theorem dX12_withdraw_19 : decode cX12_withdraw 19 = .ok (.aload_n 0, 1) := by decide +kernel
theorem dX12_withdraw_20 : decode cX12_withdraw 20 = .ok (.iconst 1, 1) := by decide +kernel
theorem dX12_withdraw_21 : decode cX12_withdraw 21 = .ok (.iconst 3, 1) := by decide +kernel
theorem dX12_withdraw_22 : decode cX12_withdraw 22 = .ok (.iload_n 1, 1) := by decide +kernel
theorem dX12_withdraw_23 : decode cX12_withdraw 23 = .ok (.imul, 1) := by decide +kernel
theorem dX12_withdraw_24 : decode cX12_withdraw 24 = .ok (.iadd, 1) := by decide +kernel
theorem dX12_withdraw_25 : decode cX12_withdraw 25 = .ok (.iconst 2, 1) := by decide +kernel
theorem dX12_withdraw_26 : decode cX12_withdraw 26 = .ok (.iadd, 1) := by decide +kernel
theorem dX12_withdraw_27 : decode cX12_withdraw 27 = .ok (.invokevirtual 209, 3) := by decide +kernel
theorem dX12_withdraw_30 : decode cX12_withdraw 30 = .ok (.istore_n 2, 1) := by decide +kernel
theorem dX12_withdraw_31 : decode cX12_withdraw 31 = .ok (.aload_n 0, 1) := by decide +kernel
theorem dX12_withdraw_32 : decode cX12_withdraw 32 = .ok (.iconst 0, 1) := by decide +kernel
theorem dX12_withdraw_33 : decode cX12_withdraw 33 = .ok (.aload_n 0, 1) := by decide +kernel
theorem dX12_withdraw_34 : decode cX12_withdraw 34 = .ok (.iconst 0, 1) := by decide +kernel
theorem dX12_withdraw_35 : decode cX12_withdraw 35 = .ok (.invokevirtual 209, 3) := by decide +kernel
theorem dX12_withdraw_38 : decode cX12_withdraw 38 = .ok (.iconst 1, 1) := by decide +kernel
theorem dX12_withdraw_39 : decode cX12_withdraw 39 = .ok (.isub, 1) := by decide +kernel
theorem dX12_withdraw_40 : decode cX12_withdraw 40 = .ok (.invokevirtual 158, 3) := by decide +kernel
theorem dX12_withdraw_43 : decode cX12_withdraw 43 = .ok (.iconst 1, 1) := by decide +kernel
theorem dX12_withdraw_44 : decode cX12_withdraw 44 = .ok (.iconst 3, 1) := by decide +kernel
theorem dX12_withdraw_45 : decode cX12_withdraw 45 = .ok (.iload_n 1, 1) := by decide +kernel
theorem dX12_withdraw_46 : decode cX12_withdraw 46 = .ok (.imul, 1) := by decide +kernel
theorem dX12_withdraw_47 : decode cX12_withdraw 47 = .ok (.iadd, 1) := by decide +kernel
theorem dX12_withdraw_48 : decode cX12_withdraw 48 = .ok (.istore_n 3, 1) := by decide +kernel
theorem dX12_withdraw_49 : decode cX12_withdraw 49 = .ok (.iload_n 3, 1) := by decide +kernel
theorem dX12_withdraw_50 : decode cX12_withdraw 50 = .ok (.iconst 1, 1) := by decide +kernel
theorem dX12_withdraw_51 : decode cX12_withdraw 51 = .ok (.iconst 3, 1) := by decide +kernel
theorem dX12_withdraw_52 : decode cX12_withdraw 52 = .ok (.aload_n 0, 1) := by decide +kernel
theorem dX12_withdraw_53 : decode cX12_withdraw 53 = .ok (.iconst 0, 1) := by decide +kernel
theorem dX12_withdraw_54 : decode cX12_withdraw 54 = .ok (.invokevirtual 209, 3) := by decide +kernel
theorem dX12_withdraw_57 : decode cX12_withdraw 57 = .ok (.imul, 1) := by decide +kernel
theorem dX12_withdraw_58 : decode cX12_withdraw 58 = .ok (.iadd, 1) := by decide +kernel
theorem dX12_withdraw_59 : decode cX12_withdraw 59 = .ok (.if_icmp .ge 21, 3) := by decide +kernel
theorem dX12_withdraw_62 : decode cX12_withdraw 62 = .ok (.aload_n 0, 1) := by decide +kernel
theorem dX12_withdraw_63 : decode cX12_withdraw 63 = .ok (.iload_n 3, 1) := by decide +kernel
theorem dX12_withdraw_64 : decode cX12_withdraw 64 = .ok (.aload_n 0, 1) := by decide +kernel
theorem dX12_withdraw_65 : decode cX12_withdraw 65 = .ok (.iload_n 3, 1) := by decide +kernel
theorem dX12_withdraw_66 : decode cX12_withdraw 66 = .ok (.iconst 3, 1) := by decide +kernel
theorem dX12_withdraw_67 : decode cX12_withdraw 67 = .ok (.iadd, 1) := by decide +kernel
theorem dX12_withdraw_68 : decode cX12_withdraw 68 = .ok (.invokevirtual 209, 3) := by decide +kernel
theorem dX12_withdraw_71 : decode cX12_withdraw 71 = .ok (.invokevirtual 158, 3) := by decide +kernel
theorem dX12_withdraw_74 : decode cX12_withdraw 74 = .ok (.iinc 3 1, 3) := by decide +kernel
theorem dX12_withdraw_77 : decode cX12_withdraw 77 = .ok (.goto (-28), 3) := by decide +kernel
theorem dX12_withdraw_80 : decode cX12_withdraw 80 = .ok (.iload_n 2, 1) := by decide +kernel
theorem dX12_withdraw_81 : decode cX12_withdraw 81 = .ok (.ireturn, 1) := by decide +kernel
theorem dX12_paid_0 : decode cX12_paid 0 = .ok (.aload_n 0, 1) := by decide +kernel
theorem dX12_paid_1 : decode cX12_paid 1 = .ok (.iload_n 1, 1) := by decide +kernel
theorem dX12_paid_2 : decode cX12_paid 2 = .ok (.iload_n 2, 1) := by decide +kernel
theorem dX12_paid_3 : decode cX12_paid 3 = .ok (.invokevirtual 252, 3) := by decide +kernel
theorem dX12_paid_6 : decode cX12_paid 6 = .ok (.ifCond .eq 7, 3) := by decide +kernel
theorem dX12_paid_9 : decode cX12_paid 9 = .ok (.iconst 0, 1) := by decide +kernel
theorem dX12_paid_10 : decode cX12_paid 10 = .ok (.goto 26, 3) := by decide +kernel
theorem dX12_paid_13 : decode cX12_paid 13 = .ok (.iload_n 3, 1) := by decide +kernel
theorem dX12_paid_14 : decode cX12_paid 14 = .ok (.i2l, 1) := by decide +kernel
theorem dX12_paid_15 : decode cX12_paid 15 = .ok (.aload_n 0, 1) := by decide +kernel
theorem dX12_paid_16 : decode cX12_paid 16 = .ok (.getfield 20, 3) := by decide +kernel
theorem dX12_paid_19 : decode cX12_paid 19 = .ok (.iconst 3, 1) := by decide +kernel
theorem dX12_paid_20 : decode cX12_paid 20 = .ok (.aload_n 0, 1) := by decide +kernel
theorem dX12_paid_21 : decode cX12_paid 21 = .ok (.iload_n 1, 1) := by decide +kernel
theorem dX12_paid_22 : decode cX12_paid 22 = .ok (.invokevirtual 239, 3) := by decide +kernel
theorem dX12_paid_25 : decode cX12_paid 25 = .ok (.imul, 1) := by decide +kernel
theorem dX12_paid_26 : decode cX12_paid 26 = .ok (.iconst 1, 1) := by decide +kernel
theorem dX12_paid_27 : decode cX12_paid 27 = .ok (.iadd, 1) := by decide +kernel
theorem dX12_paid_28 : decode cX12_paid 28 = .ok (.iaload, 1) := by decide +kernel
theorem dX12_paid_29 : decode cX12_paid 29 = .ok (.i2l, 1) := by decide +kernel
theorem dX12_paid_30 : decode cX12_paid 30 = .ok (.lmul, 1) := by decide +kernel
theorem dX12_paid_31 : decode cX12_paid 31 = .ok (.ldc2_w 319, 3) := by decide +kernel
theorem dX12_paid_34 : decode cX12_paid 34 = .ok (.ldiv, 1) := by decide +kernel
theorem dX12_paid_35 : decode cX12_paid 35 = .ok (.l2i, 1) := by decide +kernel
theorem dX12_paid_36 : decode cX12_paid 36 = .ok (.ireturn, 1) := by decide +kernel
theorem dX12_claimed_0 : decode cX12_claimed 0 = .ok (.aload_n 0, 1) := by decide +kernel
theorem dX12_claimed_1 : decode cX12_claimed 1 = .ok (.iconst 0, 1) := by decide +kernel
theorem dX12_claimed_2 : decode cX12_claimed 2 = .ok (.putfield 81, 3) := by decide +kernel
theorem dX12_claimed_5 : decode cX12_claimed 5 = .ok (.aload_n 0, 1) := by decide +kernel
theorem dX12_claimed_6 : decode cX12_claimed 6 = .ok (.iload_n 1, 1) := by decide +kernel
theorem dX12_claimed_7 : decode cX12_claimed 7 = .ok (.invokevirtual 316, 3) := by decide +kernel
theorem dX12_claimed_10 : decode cX12_claimed 10 = .ok (.ifCond .eq 12, 3) := by decide +kernel
theorem dX12_claimed_13 : decode cX12_claimed 13 = .ok (.iload_n 2, 1) := by decide +kernel
theorem dX12_claimed_14 : decode cX12_claimed 14 = .ok (.iconst 0, 1) := by decide +kernel
theorem dX12_claimed_15 : decode cX12_claimed 15 = .ok (.iconst 3, 1) := by decide +kernel
theorem dX12_claimed_16 : decode cX12_claimed 16 = .ok (.invokestatic 165, 3) := by decide +kernel
theorem dX12_claimed_19 : decode cX12_claimed 19 = .ok (.ifCond .ne 5, 3) := by decide +kernel
theorem dX12_claimed_22 : decode cX12_claimed 22 = .ok (.iconst (-1), 1) := by decide +kernel
theorem dX12_claimed_23 : decode cX12_claimed 23 = .ok (.ireturn, 1) := by decide +kernel
theorem dX12_claimed_24 : decode cX12_claimed 24 = .ok (.iconst 1, 1) := by decide +kernel
theorem dX12_claimed_25 : decode cX12_claimed 25 = .ok (.iconst 3, 1) := by decide +kernel
theorem dX12_claimed_26 : decode cX12_claimed 26 = .ok (.iload_n 1, 1) := by decide +kernel
theorem dX12_claimed_27 : decode cX12_claimed 27 = .ok (.imul, 1) := by decide +kernel
theorem dX12_claimed_28 : decode cX12_claimed 28 = .ok (.iadd, 1) := by decide +kernel
theorem dX12_claimed_29 : decode cX12_claimed 29 = .ok (.istore_n 3, 1) := by decide +kernel
theorem dX12_claimed_30 : decode cX12_claimed 30 = .ok (.iload_n 2, 1) := by decide +kernel
theorem dX12_claimed_31 : decode cX12_claimed 31 = .ok (.iconst 3, 1) := by decide +kernel
theorem dX12_claimed_32 : decode cX12_claimed 32 = .ok (.if_icmp .ge 13, 3) := by decide +kernel
theorem dX12_claimed_35 : decode cX12_claimed 35 = .ok (.aload_n 0, 1) := by decide +kernel
theorem dX12_claimed_36 : decode cX12_claimed 36 = .ok (.iload_n 3, 1) := by decide +kernel
theorem dX12_claimed_37 : decode cX12_claimed 37 = .ok (.iload_n 2, 1) := by decide +kernel
theorem dX12_claimed_38 : decode cX12_claimed 38 = .ok (.iadd, 1) := by decide +kernel
theorem dX12_claimed_39 : decode cX12_claimed 39 = .ok (.invokevirtual 209, 3) := by decide +kernel
theorem dX12_claimed_42 : decode cX12_claimed 42 = .ok (.goto 26, 3) := by decide +kernel
theorem dX12_claimed_45 : decode cX12_claimed 45 = .ok (.aload_n 0, 1) := by decide +kernel
theorem dX12_claimed_46 : decode cX12_claimed 46 = .ok (.aload_n 0, 1) := by decide +kernel
theorem dX12_claimed_47 : decode cX12_claimed 47 = .ok (.iload_n 3, 1) := by decide +kernel
theorem dX12_claimed_48 : decode cX12_claimed 48 = .ok (.invokevirtual 209, 3) := by decide +kernel
theorem dX12_claimed_51 : decode cX12_claimed 51 = .ok (.aload_n 0, 1) := by decide +kernel
theorem dX12_claimed_52 : decode cX12_claimed 52 = .ok (.iload_n 3, 1) := by decide +kernel
theorem dX12_claimed_53 : decode cX12_claimed 53 = .ok (.iconst 1, 1) := by decide +kernel
theorem dX12_claimed_54 : decode cX12_claimed 54 = .ok (.iadd, 1) := by decide +kernel
theorem dX12_claimed_55 : decode cX12_claimed 55 = .ok (.invokevirtual 209, 3) := by decide +kernel
theorem dX12_claimed_58 : decode cX12_claimed 58 = .ok (.aload_n 0, 1) := by decide +kernel
theorem dX12_claimed_59 : decode cX12_claimed 59 = .ok (.iload_n 3, 1) := by decide +kernel
theorem dX12_claimed_60 : decode cX12_claimed 60 = .ok (.iconst 2, 1) := by decide +kernel
theorem dX12_claimed_61 : decode cX12_claimed 61 = .ok (.iadd, 1) := by decide +kernel
theorem dX12_claimed_62 : decode cX12_claimed 62 = .ok (.invokevirtual 209, 3) := by decide +kernel
theorem dX12_claimed_65 : decode cX12_claimed 65 = .ok (.invokevirtual 321, 3) := by decide +kernel
theorem dX12_claimed_68 : decode cX12_claimed 68 = .ok (.ireturn, 1) := by decide +kernel
theorem dX12_claimAll_0 : decode cX12_claimAll 0 = .ok (.aload_n 0, 1) := by decide +kernel
theorem dX12_claimAll_1 : decode cX12_claimAll 1 = .ok (.iconst 0, 1) := by decide +kernel
theorem dX12_claimAll_2 : decode cX12_claimAll 2 = .ok (.putfield 81, 3) := by decide +kernel
theorem dX12_claimAll_5 : decode cX12_claimAll 5 = .ok (.aload_n 0, 1) := by decide +kernel
theorem dX12_claimAll_6 : decode cX12_claimAll 6 = .ok (.invokevirtual 324, 3) := by decide +kernel
theorem dX12_claimAll_9 : decode cX12_claimAll 9 = .ok (.pop, 1) := by decide +kernel
theorem dX12_claimAll_10 : decode cX12_claimAll 10 = .ok (.iconst 0, 1) := by decide +kernel
theorem dX12_claimAll_11 : decode cX12_claimAll 11 = .ok (.istore_n 1, 1) := by decide +kernel
theorem dX12_claimAll_12 : decode cX12_claimAll 12 = .ok (.iconst 0, 1) := by decide +kernel
theorem dX12_claimAll_13 : decode cX12_claimAll 13 = .ok (.istore_n 2, 1) := by decide +kernel
theorem dX12_claimAll_14 : decode cX12_claimAll 14 = .ok (.iload_n 2, 1) := by decide +kernel
theorem dX12_claimAll_15 : decode cX12_claimAll 15 = .ok (.sipush 144, 3) := by decide +kernel
theorem dX12_claimAll_18 : decode cX12_claimAll 18 = .ok (.if_icmp .ge 60, 3) := by decide +kernel
theorem dX12_claimAll_21 : decode cX12_claimAll 21 = .ok (.aload_n 0, 1) := by decide +kernel
theorem dX12_claimAll_22 : decode cX12_claimAll 22 = .ok (.iconst 0, 1) := by decide +kernel
theorem dX12_claimAll_23 : decode cX12_claimAll 23 = .ok (.invokevirtual 209, 3) := by decide +kernel
theorem dX12_claimAll_26 : decode cX12_claimAll 26 = .ok (.bipush 30, 2) := by decide +kernel
theorem dX12_claimAll_28 : decode cX12_claimAll 28 = .ok (.if_icmp .ge 50, 3) := by decide +kernel
theorem dX12_claimAll_31 : decode cX12_claimAll 31 = .ok (.aload_n 0, 1) := by decide +kernel
theorem dX12_claimAll_32 : decode cX12_claimAll 32 = .ok (.getfield 54, 3) := by decide +kernel
theorem dX12_claimAll_35 : decode cX12_claimAll 35 = .ok (.iload_n 2, 1) := by decide +kernel
theorem dX12_claimAll_36 : decode cX12_claimAll 36 = .ok (.iaload, 1) := by decide +kernel
theorem dX12_claimAll_37 : decode cX12_claimAll 37 = .ok (.ifCond .ne 6, 3) := by decide +kernel
theorem dX12_claimAll_40 : decode cX12_claimAll 40 = .ok (.goto 32, 3) := by decide +kernel
theorem dX12_claimAll_43 : decode cX12_claimAll 43 = .ok (.iload_n 1, 1) := by decide +kernel
theorem dX12_claimAll_44 : decode cX12_claimAll 44 = .ok (.ifCond .ne 7, 3) := by decide +kernel
theorem dX12_claimAll_47 : decode cX12_claimAll 47 = .ok (.aload_n 0, 1) := by decide +kernel
theorem dX12_claimAll_48 : decode cX12_claimAll 48 = .ok (.invokevirtual 309, 3) := by decide +kernel
theorem dX12_claimAll_51 : decode cX12_claimAll 51 = .ok (.aload_n 0, 1) := by decide +kernel
theorem dX12_claimAll_52 : decode cX12_claimAll 52 = .ok (.iload_n 2, 1) := by decide +kernel
theorem dX12_claimAll_53 : decode cX12_claimAll 53 = .ok (.bipush 12, 2) := by decide +kernel
theorem dX12_claimAll_55 : decode cX12_claimAll 55 = .ok (.idiv, 1) := by decide +kernel
theorem dX12_claimAll_56 : decode cX12_claimAll 56 = .ok (.iload_n 2, 1) := by decide +kernel
theorem dX12_claimAll_57 : decode cX12_claimAll 57 = .ok (.bipush 12, 2) := by decide +kernel
theorem dX12_claimAll_59 : decode cX12_claimAll 59 = .ok (.irem, 1) := by decide +kernel
theorem dX12_claimAll_60 : decode cX12_claimAll 60 = .ok (.aload_n 0, 1) := by decide +kernel
theorem dX12_claimAll_61 : decode cX12_claimAll 61 = .ok (.getfield 54, 3) := by decide +kernel
theorem dX12_claimAll_64 : decode cX12_claimAll 64 = .ok (.iload_n 2, 1) := by decide +kernel
theorem dX12_claimAll_65 : decode cX12_claimAll 65 = .ok (.iaload, 1) := by decide +kernel
theorem dX12_claimAll_66 : decode cX12_claimAll 66 = .ok (.invokevirtual 312, 3) := by decide +kernel
theorem dX12_claimAll_69 : decode cX12_claimAll 69 = .ok (.iinc 1 1, 3) := by decide +kernel
theorem dX12_claimAll_72 : decode cX12_claimAll 72 = .ok (.iinc 2 1, 3) := by decide +kernel
theorem dX12_claimAll_75 : decode cX12_claimAll 75 = .ok (.goto (-61), 3) := by decide +kernel
theorem dX12_claimAll_78 : decode cX12_claimAll 78 = .ok (.iload_n 1, 1) := by decide +kernel
theorem dX12_claimAll_79 : decode cX12_claimAll 79 = .ok (.ireturn, 1) := by decide +kernel
theorem dX12_result__0 : decode cX12_result_ 0 = .ok (.aload_n 0, 1) := by decide +kernel
theorem dX12_result__1 : decode cX12_result_ 1 = .ok (.iconst 0, 1) := by decide +kernel
theorem dX12_result__2 : decode cX12_result_ 2 = .ok (.putfield 81, 3) := by decide +kernel
theorem dX12_result__5 : decode cX12_result_ 5 = .ok (.aload_n 0, 1) := by decide +kernel
theorem dX12_result__6 : decode cX12_result_ 6 = .ok (.iload_n 1, 1) := by decide +kernel
theorem dX12_result__7 : decode cX12_result_ 7 = .ok (.invokevirtual 246, 3) := by decide +kernel
theorem dX12_result__10 : decode cX12_result_ 10 = .ok (.ifCond .eq 22, 3) := by decide +kernel
theorem dX12_result__13 : decode cX12_result_ 13 = .ok (.iload_n 2, 1) := by decide +kernel
theorem dX12_result__14 : decode cX12_result_ 14 = .ok (.ldc 190, 2) := by decide +kernel
theorem dX12_result__16 : decode cX12_result_ 16 = .ok (.ldc 119, 2) := by decide +kernel
theorem dX12_result__18 : decode cX12_result_ 18 = .ok (.invokestatic 165, 3) := by decide +kernel
theorem dX12_result__21 : decode cX12_result_ 21 = .ok (.ifCond .eq 11, 3) := by decide +kernel
theorem dX12_result__24 : decode cX12_result_ 24 = .ok (.aload_n 0, 1) := by decide +kernel
theorem dX12_result__25 : decode cX12_result_ 25 = .ok (.iload_n 1, 1) := by decide +kernel
theorem dX12_result__26 : decode cX12_result_ 26 = .ok (.invokevirtual 258, 3) := by decide +kernel
theorem dX12_result__29 : decode cX12_result_ 29 = .ok (.ifCond .le 5, 3) := by decide +kernel
theorem dX12_result__32 : decode cX12_result_ 32 = .ok (.iconst 0, 1) := by decide +kernel
theorem dX12_result__33 : decode cX12_result_ 33 = .ok (.ireturn, 1) := by decide +kernel
theorem dX12_result__34 : decode cX12_result_ 34 = .ok (.aload_n 0, 1) := by decide +kernel
theorem dX12_result__35 : decode cX12_result_ 35 = .ok (.invokevirtual 309, 3) := by decide +kernel
theorem dX12_result__38 : decode cX12_result_ 38 = .ok (.aload_n 0, 1) := by decide +kernel
theorem dX12_result__39 : decode cX12_result_ 39 = .ok (.bipush 91, 2) := by decide +kernel
theorem dX12_result__41 : decode cX12_result_ 41 = .ok (.iload_n 1, 1) := by decide +kernel
theorem dX12_result__42 : decode cX12_result_ 42 = .ok (.iadd, 1) := by decide +kernel
theorem dX12_result__43 : decode cX12_result_ 43 = .ok (.iload_n 2, 1) := by decide +kernel
theorem dX12_result__44 : decode cX12_result_ 44 = .ok (.invokevirtual 158, 3) := by decide +kernel
theorem dX12_result__47 : decode cX12_result_ 47 = .ok (.iconst 1, 1) := by decide +kernel
theorem dX12_result__48 : decode cX12_result_ 48 = .ok (.ireturn, 1) := by decide +kernel
theorem dX12_own_0 : decode cX12_own 0 = .ok (.aload_n 0, 1) := by decide +kernel
theorem dX12_own_1 : decode cX12_own 1 = .ok (.iconst 0, 1) := by decide +kernel
theorem dX12_own_2 : decode cX12_own 2 = .ok (.putfield 81, 3) := by decide +kernel
theorem dX12_own_5 : decode cX12_own 5 = .ok (.aload_n 0, 1) := by decide +kernel
theorem dX12_own_6 : decode cX12_own 6 = .ok (.iload_n 1, 1) := by decide +kernel
theorem dX12_own_7 : decode cX12_own 7 = .ok (.invokevirtual 327, 3) := by decide +kernel
theorem dX12_own_10 : decode cX12_own 10 = .ok (.ifCond .eq 34, 3) := by decide +kernel
theorem dX12_own_13 : decode cX12_own 13 = .ok (.aload_n 0, 1) := by decide +kernel
theorem dX12_own_14 : decode cX12_own 14 = .ok (.iload_n 2, 1) := by decide +kernel
theorem dX12_own_15 : decode cX12_own 15 = .ok (.invokevirtual 327, 3) := by decide +kernel
theorem dX12_own_18 : decode cX12_own 18 = .ok (.ifCond .eq 26, 3) := by decide +kernel
theorem dX12_own_21 : decode cX12_own 21 = .ok (.iload_n 1, 1) := by decide +kernel
theorem dX12_own_22 : decode cX12_own 22 = .ok (.iload_n 2, 1) := by decide +kernel
theorem dX12_own_23 : decode cX12_own 23 = .ok (.if_icmp .ge 21, 3) := by decide +kernel
theorem dX12_own_26 : decode cX12_own 26 = .ok (.iload_n 3, 1) := by decide +kernel
theorem dX12_own_27 : decode cX12_own 27 = .ok (.iconst 0, 1) := by decide +kernel
theorem dX12_own_28 : decode cX12_own 28 = .ok (.bipush 100, 2) := by decide +kernel
theorem dX12_own_30 : decode cX12_own 30 = .ok (.invokestatic 165, 3) := by decide +kernel
theorem dX12_own_33 : decode cX12_own 33 = .ok (.ifCond .eq 11, 3) := by decide +kernel
theorem dX12_own_36 : decode cX12_own 36 = .ok (.iload 4, 2) := by decide +kernel
theorem dX12_own_38 : decode cX12_own 38 = .ok (.invokestatic 330, 3) := by decide +kernel
theorem dX12_own_41 : decode cX12_own 41 = .ok (.ifCond .ne 5, 3) := by decide +kernel
theorem dX12_own_44 : decode cX12_own 44 = .ok (.iconst (-1), 1) := by decide +kernel
theorem dX12_own_45 : decode cX12_own 45 = .ok (.ireturn, 1) := by decide +kernel
theorem dX12_own_46 : decode cX12_own 46 = .ok (.aload_n 0, 1) := by decide +kernel
theorem dX12_own_47 : decode cX12_own 47 = .ok (.bipush 103, 2) := by decide +kernel
theorem dX12_own_49 : decode cX12_own 49 = .ok (.invokevirtual 209, 3) := by decide +kernel
theorem dX12_own_52 : decode cX12_own 52 = .ok (.bipush 24, 2) := by decide +kernel
theorem dX12_own_54 : decode cX12_own 54 = .ok (.if_icmp .ne 6, 3) := by decide +kernel
theorem dX12_own_57 : decode cX12_own 57 = .ok (.bipush (-2), 2) := by decide +kernel
theorem dX12_own_59 : decode cX12_own 59 = .ok (.ireturn, 1) := by decide +kernel
theorem dX12_own_60 : decode cX12_own 60 = .ok (.aload_n 0, 1) := by decide +kernel
theorem dX12_own_61 : decode cX12_own 61 = .ok (.iconst 0, 1) := by decide +kernel
theorem dX12_own_62 : decode cX12_own 62 = .ok (.iconst 1, 1) := by decide +kernel
theorem dX12_own_63 : decode cX12_own 63 = .ok (.invokevirtual 206, 3) := by decide +kernel
theorem dX12_own_66 : decode cX12_own 66 = .ok (.aload_n 0, 1) := by decide +kernel
theorem dX12_own_67 : decode cX12_own 67 = .ok (.iconst 1, 1) := by decide +kernel
theorem dX12_own_68 : decode cX12_own 68 = .ok (.putfield 148, 3) := by decide +kernel
theorem dX12_own_71 : decode cX12_own 71 = .ok (.aload_n 0, 1) := by decide +kernel
theorem dX12_own_72 : decode cX12_own 72 = .ok (.iload_n 1, 1) := by decide +kernel
theorem dX12_own_73 : decode cX12_own 73 = .ok (.iload_n 2, 1) := by decide +kernel
theorem dX12_own_74 : decode cX12_own 74 = .ok (.iload_n 3, 1) := by decide +kernel
theorem dX12_own_75 : decode cX12_own 75 = .ok (.iload 4, 2) := by decide +kernel
theorem dX12_own_77 : decode cX12_own 77 = .ok (.invokevirtual 333, 3) := by decide +kernel
theorem dX12_own_80 : decode cX12_own 80 = .ok (.aload_n 0, 1) := by decide +kernel
theorem dX12_own_81 : decode cX12_own 81 = .ok (.aload_n 0, 1) := by decide +kernel
theorem dX12_own_82 : decode cX12_own 82 = .ok (.getfield 29, 3) := by decide +kernel
theorem dX12_own_85 : decode cX12_own 85 = .ok (.iconst 0, 1) := by decide +kernel
theorem dX12_own_86 : decode cX12_own 86 = .ok (.iaload, 1) := by decide +kernel
theorem dX12_own_87 : decode cX12_own 87 = .ok (.invokevirtual 261, 3) := by decide +kernel
theorem dX12_own_90 : decode cX12_own 90 = .ok (.iconst 1, 1) := by decide +kernel
theorem dX12_own_91 : decode cX12_own 91 = .ok (.istore 5, 2) := by decide +kernel
theorem dX12_own_93 : decode cX12_own 93 = .ok (.iconst 0, 1) := by decide +kernel
theorem dX12_own_94 : decode cX12_own 94 = .ok (.istore 6, 2) := by decide +kernel
theorem dX12_own_96 : decode cX12_own 96 = .ok (.iload 6, 2) := by decide +kernel
theorem dX12_own_98 : decode cX12_own 98 = .ok (.aload_n 0, 1) := by decide +kernel
theorem dX12_own_99 : decode cX12_own 99 = .ok (.iconst 0, 1) := by decide +kernel
theorem dX12_own_100 : decode cX12_own 100 = .ok (.invokevirtual 209, 3) := by decide +kernel
theorem dX12_own_103 : decode cX12_own 103 = .ok (.if_icmp .ge 66, 3) := by decide +kernel
theorem dX12_own_106 : decode cX12_own 106 = .ok (.aload_n 0, 1) := by decide +kernel
theorem dX12_own_107 : decode cX12_own 107 = .ok (.iconst 1, 1) := by decide +kernel
theorem dX12_own_108 : decode cX12_own 108 = .ok (.iconst 3, 1) := by decide +kernel
theorem dX12_own_109 : decode cX12_own 109 = .ok (.iload 6, 2) := by decide +kernel
theorem dX12_own_111 : decode cX12_own 111 = .ok (.imul, 1) := by decide +kernel
theorem dX12_own_112 : decode cX12_own 112 = .ok (.iadd, 1) := by decide +kernel
theorem dX12_own_113 : decode cX12_own 113 = .ok (.invokevirtual 209, 3) := by decide +kernel
theorem dX12_own_116 : decode cX12_own 116 = .ok (.istore 7, 2) := by decide +kernel
theorem dX12_own_118 : decode cX12_own 118 = .ok (.aload_n 0, 1) := by decide +kernel
theorem dX12_own_119 : decode cX12_own 119 = .ok (.iconst 1, 1) := by decide +kernel
theorem dX12_own_120 : decode cX12_own 120 = .ok (.iconst 3, 1) := by decide +kernel
theorem dX12_own_121 : decode cX12_own 121 = .ok (.iload 6, 2) := by decide +kernel
theorem dX12_own_123 : decode cX12_own 123 = .ok (.imul, 1) := by decide +kernel
theorem dX12_own_124 : decode cX12_own 124 = .ok (.iadd, 1) := by decide +kernel
theorem dX12_own_125 : decode cX12_own 125 = .ok (.iconst 1, 1) := by decide +kernel
theorem dX12_own_126 : decode cX12_own 126 = .ok (.iadd, 1) := by decide +kernel
theorem dX12_own_127 : decode cX12_own 127 = .ok (.invokevirtual 209, 3) := by decide +kernel
theorem dX12_own_130 : decode cX12_own 130 = .ok (.istore 8, 2) := by decide +kernel
theorem dX12_own_132 : decode cX12_own 132 = .ok (.iload 5, 2) := by decide +kernel
theorem dX12_own_134 : decode cX12_own 134 = .ok (.ifCond .eq 26, 3) := by decide +kernel
theorem dX12_own_137 : decode cX12_own 137 = .ok (.aload_n 0, 1) := by decide +kernel
theorem dX12_own_138 : decode cX12_own 138 = .ok (.iload 7, 2) := by decide +kernel
theorem dX12_own_140 : decode cX12_own 140 = .ok (.iload 8, 2) := by decide +kernel
theorem dX12_own_142 : decode cX12_own 142 = .ok (.invokevirtual 273, 3) := by decide +kernel
theorem dX12_own_145 : decode cX12_own 145 = .ok (.aload_n 0, 1) := by decide +kernel
theorem dX12_own_146 : decode cX12_own 146 = .ok (.iload 7, 2) := by decide +kernel
theorem dX12_own_148 : decode cX12_own 148 = .ok (.iload 8, 2) := by decide +kernel
theorem dX12_own_150 : decode cX12_own 150 = .ok (.invokevirtual 270, 3) := by decide +kernel
theorem dX12_own_153 : decode cX12_own 153 = .ok (.if_icmp .gt 7, 3) := by decide +kernel
theorem dX12_own_156 : decode cX12_own 156 = .ok (.iconst 1, 1) := by decide +kernel
theorem dX12_own_157 : decode cX12_own 157 = .ok (.goto 4, 3) := by decide +kernel
theorem dX12_own_160 : decode cX12_own 160 = .ok (.iconst 0, 1) := by decide +kernel
theorem dX12_own_161 : decode cX12_own 161 = .ok (.istore 5, 2) := by decide +kernel
theorem dX12_own_163 : decode cX12_own 163 = .ok (.iinc 6 1, 3) := by decide +kernel
theorem dX12_own_166 : decode cX12_own 166 = .ok (.goto (-70), 3) := by decide +kernel
theorem dX12_own_169 : decode cX12_own 169 = .ok (.aload_n 0, 1) := by decide +kernel
theorem dX12_own_170 : decode cX12_own 170 = .ok (.iconst 0, 1) := by decide +kernel
theorem dX12_own_171 : decode cX12_own 171 = .ok (.putfield 148, 3) := by decide +kernel
theorem dX12_own_174 : decode cX12_own 174 = .ok (.iload 5, 2) := by decide +kernel
theorem dX12_own_176 : decode cX12_own 176 = .ok (.ifCond .ne 6, 3) := by decide +kernel
theorem dX12_own_179 : decode cX12_own 179 = .ok (.bipush (-3), 2) := by decide +kernel
theorem dX12_own_181 : decode cX12_own 181 = .ok (.ireturn, 1) := by decide +kernel
theorem dX12_own_182 : decode cX12_own 182 = .ok (.aload_n 0, 1) := by decide +kernel
theorem dX12_own_183 : decode cX12_own 183 = .ok (.invokevirtual 309, 3) := by decide +kernel
theorem dX12_own_186 : decode cX12_own 186 = .ok (.aload_n 0, 1) := by decide +kernel
theorem dX12_own_187 : decode cX12_own 187 = .ok (.iload_n 1, 1) := by decide +kernel
theorem dX12_own_188 : decode cX12_own 188 = .ok (.iload_n 2, 1) := by decide +kernel
theorem dX12_own_189 : decode cX12_own 189 = .ok (.iload_n 3, 1) := by decide +kernel
theorem dX12_own_190 : decode cX12_own 190 = .ok (.iload 4, 2) := by decide +kernel
theorem dX12_own_192 : decode cX12_own 192 = .ok (.invokevirtual 333, 3) := by decide +kernel
theorem dX12_own_195 : decode cX12_own 195 = .ok (.aload_n 0, 1) := by decide +kernel
theorem dX12_own_196 : decode cX12_own 196 = .ok (.bipush 103, 2) := by decide +kernel
theorem dX12_own_198 : decode cX12_own 198 = .ok (.invokevirtual 209, 3) := by decide +kernel
theorem dX12_own_201 : decode cX12_own 201 = .ok (.ireturn, 1) := by decide +kernel
theorem dX12_owned_0 : decode cX12_owned 0 = .ok (.bipush 104, 2) := by decide +kernel
theorem dX12_owned_2 : decode cX12_owned 2 = .ok (.iconst 4, 1) := by decide +kernel
theorem dX12_owned_3 : decode cX12_owned 3 = .ok (.aload_n 0, 1) := by decide +kernel
theorem dX12_owned_4 : decode cX12_owned 4 = .ok (.bipush 103, 2) := by decide +kernel
theorem dX12_owned_6 : decode cX12_owned 6 = .ok (.invokevirtual 209, 3) := by decide +kernel
theorem dX12_owned_9 : decode cX12_owned 9 = .ok (.imul, 1) := by decide +kernel
theorem dX12_owned_10 : decode cX12_owned 10 = .ok (.iadd, 1) := by decide +kernel
theorem dX12_owned_11 : decode cX12_owned 11 = .ok (.istore 5, 2) := by decide +kernel
theorem dX12_owned_13 : decode cX12_owned 13 = .ok (.aload_n 0, 1) := by decide +kernel
theorem dX12_owned_14 : decode cX12_owned 14 = .ok (.iload 5, 2) := by decide +kernel
theorem dX12_owned_16 : decode cX12_owned 16 = .ok (.iload_n 1, 1) := by decide +kernel
theorem dX12_owned_17 : decode cX12_owned 17 = .ok (.invokevirtual 158, 3) := by decide +kernel
theorem dX12_owned_20 : decode cX12_owned 20 = .ok (.aload_n 0, 1) := by decide +kernel
theorem dX12_owned_21 : decode cX12_owned 21 = .ok (.iload 5, 2) := by decide +kernel
theorem dX12_owned_23 : decode cX12_owned 23 = .ok (.iconst 1, 1) := by decide +kernel
theorem dX12_owned_24 : decode cX12_owned 24 = .ok (.iadd, 1) := by decide +kernel
theorem dX12_owned_25 : decode cX12_owned 25 = .ok (.iload_n 2, 1) := by decide +kernel
theorem dX12_owned_26 : decode cX12_owned 26 = .ok (.invokevirtual 158, 3) := by decide +kernel
theorem dX12_owned_29 : decode cX12_owned 29 = .ok (.aload_n 0, 1) := by decide +kernel
theorem dX12_owned_30 : decode cX12_owned 30 = .ok (.iload 5, 2) := by decide +kernel
theorem dX12_owned_32 : decode cX12_owned 32 = .ok (.iconst 2, 1) := by decide +kernel
theorem dX12_owned_33 : decode cX12_owned 33 = .ok (.iadd, 1) := by decide +kernel
theorem dX12_owned_34 : decode cX12_owned 34 = .ok (.iload_n 3, 1) := by decide +kernel
theorem dX12_owned_35 : decode cX12_owned 35 = .ok (.invokevirtual 158, 3) := by decide +kernel
theorem dX12_owned_38 : decode cX12_owned 38 = .ok (.aload_n 0, 1) := by decide +kernel
theorem dX12_owned_39 : decode cX12_owned 39 = .ok (.iload 5, 2) := by decide +kernel
theorem dX12_owned_41 : decode cX12_owned 41 = .ok (.iconst 3, 1) := by decide +kernel
theorem dX12_owned_42 : decode cX12_owned 42 = .ok (.iadd, 1) := by decide +kernel
theorem dX12_owned_43 : decode cX12_owned 43 = .ok (.iload 4, 2) := by decide +kernel
theorem dX12_owned_45 : decode cX12_owned 45 = .ok (.invokevirtual 158, 3) := by decide +kernel
theorem dX12_owned_48 : decode cX12_owned 48 = .ok (.aload_n 0, 1) := by decide +kernel
theorem dX12_owned_49 : decode cX12_owned 49 = .ok (.bipush 103, 2) := by decide +kernel
theorem dX12_owned_51 : decode cX12_owned 51 = .ok (.aload_n 0, 1) := by decide +kernel
theorem dX12_owned_52 : decode cX12_owned 52 = .ok (.bipush 103, 2) := by decide +kernel
theorem dX12_owned_54 : decode cX12_owned 54 = .ok (.invokevirtual 209, 3) := by decide +kernel
theorem dX12_owned_57 : decode cX12_owned 57 = .ok (.iconst 1, 1) := by decide +kernel
theorem dX12_owned_58 : decode cX12_owned 58 = .ok (.iadd, 1) := by decide +kernel
theorem dX12_owned_59 : decode cX12_owned 59 = .ok (.invokevirtual 158, 3) := by decide +kernel
theorem dX12_owned_62 : decode cX12_owned 62 = .ok (.return_, 1) := by decide +kernel
theorem dX12_fails_0 : decode cX12_fails 0 = .ok (.aload_n 0, 1) := by decide +kernel
theorem dX12_fails_1 : decode cX12_fails 1 = .ok (.iload_n 1, 1) := by decide +kernel
theorem dX12_fails_2 : decode cX12_fails 2 = .ok (.putfield 81, 3) := by decide +kernel
theorem dX12_fails_5 : decode cX12_fails 5 = .ok (.iconst 0, 1) := by decide +kernel
theorem dX12_fails_6 : decode cX12_fails 6 = .ok (.ireturn, 1) := by decide +kernel
theorem dX12_member_0 : decode cX12_member 0 = .ok (.aload_n 0, 1) := by decide +kernel
theorem dX12_member_1 : decode cX12_member 1 = .ok (.iconst 0, 1) := by decide +kernel
theorem dX12_member_2 : decode cX12_member 2 = .ok (.putfield 81, 3) := by decide +kernel
theorem dX12_member_5 : decode cX12_member 5 = .ok (.aload_n 0, 1) := by decide +kernel
theorem dX12_member_6 : decode cX12_member 6 = .ok (.iload_n 1, 1) := by decide +kernel
theorem dX12_member_7 : decode cX12_member 7 = .ok (.invokevirtual 327, 3) := by decide +kernel
theorem dX12_member_10 : decode cX12_member 10 = .ok (.ifCond .ne 9, 3) := by decide +kernel
theorem dX12_member_13 : decode cX12_member 13 = .ok (.aload_n 0, 1) := by decide +kernel
theorem dX12_member_14 : decode cX12_member 14 = .ok (.iconst 1, 1) := by decide +kernel
theorem dX12_member_15 : decode cX12_member 15 = .ok (.invokevirtual 337, 3) := by decide +kernel
theorem dX12_member_18 : decode cX12_member 18 = .ok (.ireturn, 1) := by decide +kernel
theorem dX12_member_19 : decode cX12_member 19 = .ok (.iload_n 2, 1) := by decide +kernel
theorem dX12_member_20 : decode cX12_member 20 = .ok (.iconst 0, 1) := by decide +kernel
theorem dX12_member_21 : decode cX12_member 21 = .ok (.iconst 2, 1) := by decide +kernel
theorem dX12_member_22 : decode cX12_member 22 = .ok (.invokestatic 165, 3) := by decide +kernel
theorem dX12_member_25 : decode cX12_member 25 = .ok (.ifCond .ne 9, 3) := by decide +kernel
theorem dX12_member_28 : decode cX12_member 28 = .ok (.aload_n 0, 1) := by decide +kernel
theorem dX12_member_29 : decode cX12_member 29 = .ok (.iconst 2, 1) := by decide +kernel
theorem dX12_member_30 : decode cX12_member 30 = .ok (.invokevirtual 337, 3) := by decide +kernel
theorem dX12_member_33 : decode cX12_member 33 = .ok (.ireturn, 1) := by decide +kernel
theorem dX12_member_34 : decode cX12_member 34 = .ok (.iload_n 2, 1) := by decide +kernel
theorem dX12_member_35 : decode cX12_member 35 = .ok (.iconst 2, 1) := by decide +kernel
theorem dX12_member_36 : decode cX12_member 36 = .ok (.if_icmp .ge 16, 3) := by decide +kernel
theorem dX12_member_39 : decode cX12_member 39 = .ok (.aload_n 0, 1) := by decide +kernel
theorem dX12_member_40 : decode cX12_member 40 = .ok (.getfield 20, 3) := by decide +kernel
theorem dX12_member_43 : decode cX12_member 43 = .ok (.iconst 3, 1) := by decide +kernel
theorem dX12_member_44 : decode cX12_member 44 = .ok (.iload_n 1, 1) := by decide +kernel
theorem dX12_member_45 : decode cX12_member 45 = .ok (.imul, 1) := by decide +kernel
theorem dX12_member_46 : decode cX12_member 46 = .ok (.iconst 1, 1) := by decide +kernel
theorem dX12_member_47 : decode cX12_member 47 = .ok (.iadd, 1) := by decide +kernel
theorem dX12_member_48 : decode cX12_member 48 = .ok (.iload_n 2, 1) := by decide +kernel
theorem dX12_member_49 : decode cX12_member 49 = .ok (.iadd, 1) := by decide +kernel
theorem dX12_member_50 : decode cX12_member 50 = .ok (.iaload, 1) := by decide +kernel
theorem dX12_member_51 : decode cX12_member 51 = .ok (.ireturn, 1) := by decide +kernel
theorem dX12_member_52 : decode cX12_member 52 = .ok (.iconst 0, 1) := by decide +kernel
theorem dX12_member_53 : decode cX12_member 53 = .ok (.istore_n 3, 1) := by decide +kernel
theorem dX12_member_54 : decode cX12_member 54 = .ok (.iconst 0, 1) := by decide +kernel
theorem dX12_member_55 : decode cX12_member 55 = .ok (.istore 4, 2) := by decide +kernel
theorem dX12_member_57 : decode cX12_member 57 = .ok (.iload 4, 2) := by decide +kernel
theorem dX12_member_59 : decode cX12_member 59 = .ok (.aload_n 0, 1) := by decide +kernel
theorem dX12_member_60 : decode cX12_member 60 = .ok (.getfield 135, 3) := by decide +kernel
theorem dX12_member_63 : decode cX12_member 63 = .ok (.if_icmp .ge 30, 3) := by decide +kernel
theorem dX12_member_66 : decode cX12_member 66 = .ok (.iload_n 3, 1) := by decide +kernel
theorem dX12_member_67 : decode cX12_member 67 = .ok (.aload_n 0, 1) := by decide +kernel
theorem dX12_member_68 : decode cX12_member 68 = .ok (.iload 4, 2) := by decide +kernel
theorem dX12_member_70 : decode cX12_member 70 = .ok (.invokevirtual 239, 3) := by decide +kernel
theorem dX12_member_73 : decode cX12_member 73 = .ok (.iload_n 1, 1) := by decide +kernel
theorem dX12_member_74 : decode cX12_member 74 = .ok (.if_icmp .ne 10, 3) := by decide +kernel
theorem dX12_member_77 : decode cX12_member 77 = .ok (.iconst 1, 1) := by decide +kernel
theorem dX12_member_78 : decode cX12_member 78 = .ok (.iload 4, 2) := by decide +kernel
theorem dX12_member_80 : decode cX12_member 80 = .ok (.ishl, 1) := by decide +kernel
theorem dX12_member_81 : decode cX12_member 81 = .ok (.goto 4, 3) := by decide +kernel
theorem dX12_member_84 : decode cX12_member 84 = .ok (.iconst 0, 1) := by decide +kernel
theorem dX12_member_85 : decode cX12_member 85 = .ok (.ior, 1) := by decide +kernel
theorem dX12_member_86 : decode cX12_member 86 = .ok (.istore_n 3, 1) := by decide +kernel
theorem dX12_member_87 : decode cX12_member 87 = .ok (.iinc 4 1, 3) := by decide +kernel
theorem dX12_member_90 : decode cX12_member 90 = .ok (.goto (-33), 3) := by decide +kernel
theorem dX12_member_93 : decode cX12_member 93 = .ok (.iload_n 3, 1) := by decide +kernel
theorem dX12_member_94 : decode cX12_member 94 = .ok (.ireturn, 1) := by decide +kernel
theorem dX12_period_0 : decode cX12_period 0 = .ok (.aload_n 0, 1) := by decide +kernel
theorem dX12_period_1 : decode cX12_period 1 = .ok (.iconst 0, 1) := by decide +kernel
theorem dX12_period_2 : decode cX12_period 2 = .ok (.putfield 81, 3) := by decide +kernel
theorem dX12_period_5 : decode cX12_period 5 = .ok (.aload_n 0, 1) := by decide +kernel
theorem dX12_period_6 : decode cX12_period 6 = .ok (.iload_n 1, 1) := by decide +kernel
theorem dX12_period_7 : decode cX12_period 7 = .ok (.invokevirtual 246, 3) := by decide +kernel
theorem dX12_period_10 : decode cX12_period 10 = .ok (.ifCond .eq 12, 3) := by decide +kernel
theorem dX12_period_13 : decode cX12_period 13 = .ok (.iload_n 2, 1) := by decide +kernel
theorem dX12_period_14 : decode cX12_period 14 = .ok (.iconst 0, 1) := by decide +kernel
theorem dX12_period_15 : decode cX12_period 15 = .ok (.iconst 5, 1) := by decide +kernel
theorem dX12_period_16 : decode cX12_period 16 = .ok (.invokestatic 165, 3) := by decide +kernel
theorem dX12_period_19 : decode cX12_period 19 = .ok (.ifCond .ne 7, 3) := by decide +kernel
theorem dX12_period_22 : decode cX12_period 22 = .ok (.ldc_w 340, 3) := by decide +kernel
theorem dX12_period_25 : decode cX12_period 25 = .ok (.ireturn, 1) := by decide +kernel
theorem dX12_period_26 : decode cX12_period 26 = .ok (.iload_n 2, 1) := by decide +kernel
theorem dX12_period_27 : decode cX12_period 27 = .ok (.iconst 3, 1) := by decide +kernel
theorem dX12_period_28 : decode cX12_period 28 = .ok (.if_icmp .ge 16, 3) := by decide +kernel
theorem dX12_period_31 : decode cX12_period 31 = .ok (.aload_n 0, 1) := by decide +kernel
theorem dX12_period_32 : decode cX12_period 32 = .ok (.getfield 23, 3) := by decide +kernel
theorem dX12_period_35 : decode cX12_period 35 = .ok (.iconst 4, 1) := by decide +kernel
theorem dX12_period_36 : decode cX12_period 36 = .ok (.iload_n 1, 1) := by decide +kernel
theorem dX12_period_37 : decode cX12_period 37 = .ok (.imul, 1) := by decide +kernel
theorem dX12_period_38 : decode cX12_period 38 = .ok (.iload_n 2, 1) := by decide +kernel
theorem dX12_period_39 : decode cX12_period 39 = .ok (.iadd, 1) := by decide +kernel
theorem dX12_period_40 : decode cX12_period 40 = .ok (.iaload, 1) := by decide +kernel
theorem dX12_period_41 : decode cX12_period 41 = .ok (.goto 34, 3) := by decide +kernel
theorem dX12_period_44 : decode cX12_period 44 = .ok (.iload_n 2, 1) := by decide +kernel
theorem dX12_period_45 : decode cX12_period 45 = .ok (.iconst 3, 1) := by decide +kernel
theorem dX12_period_46 : decode cX12_period 46 = .ok (.if_icmp .ne 11, 3) := by decide +kernel
theorem dX12_period_49 : decode cX12_period 49 = .ok (.aload_n 0, 1) := by decide +kernel
theorem dX12_period_50 : decode cX12_period 50 = .ok (.iload_n 1, 1) := by decide +kernel
theorem dX12_period_51 : decode cX12_period 51 = .ok (.invokevirtual 249, 3) := by decide +kernel
theorem dX12_period_54 : decode cX12_period 54 = .ok (.goto 21, 3) := by decide +kernel
theorem dX12_period_57 : decode cX12_period 57 = .ok (.iload_n 2, 1) := by decide +kernel
theorem dX12_period_58 : decode cX12_period 58 = .ok (.iconst 4, 1) := by decide +kernel
theorem dX12_period_59 : decode cX12_period 59 = .ok (.if_icmp .ne 11, 3) := by decide +kernel
theorem dX12_period_62 : decode cX12_period 62 = .ok (.aload_n 0, 1) := by decide +kernel
theorem dX12_period_63 : decode cX12_period 63 = .ok (.iload_n 1, 1) := by decide +kernel
theorem dX12_period_64 : decode cX12_period 64 = .ok (.invokevirtual 264, 3) := by decide +kernel
theorem dX12_period_67 : decode cX12_period 67 = .ok (.goto 8, 3) := by decide +kernel
theorem dX12_period_70 : decode cX12_period 70 = .ok (.aload_n 0, 1) := by decide +kernel
theorem dX12_period_71 : decode cX12_period 71 = .ok (.iload_n 1, 1) := by decide +kernel
theorem dX12_period_72 : decode cX12_period 72 = .ok (.invokevirtual 258, 3) := by decide +kernel
theorem dX12_period_75 : decode cX12_period 75 = .ok (.ireturn, 1) := by decide +kernel
theorem dX12_areMembers_0 : decode cX12_areMembers 0 = .ok (.aload_n 0, 1) := by decide +kernel
theorem dX12_areMembers_1 : decode cX12_areMembers 1 = .ok (.iload_n 1, 1) := by decide +kernel
theorem dX12_areMembers_2 : decode cX12_areMembers 2 = .ok (.invokevirtual 327, 3) := by decide +kernel
theorem dX12_areMembers_5 : decode cX12_areMembers 5 = .ok (.ifCond .eq 15, 3) := by decide +kernel
theorem dX12_areMembers_8 : decode cX12_areMembers 8 = .ok (.aload_n 0, 1) := by decide +kernel
theorem dX12_areMembers_9 : decode cX12_areMembers 9 = .ok (.iload_n 2, 1) := by decide +kernel
theorem dX12_areMembers_10 : decode cX12_areMembers 10 = .ok (.invokevirtual 327, 3) := by decide +kernel
theorem dX12_areMembers_13 : decode cX12_areMembers 13 = .ok (.ifCond .eq 7, 3) := by decide +kernel
theorem dX12_areMembers_16 : decode cX12_areMembers 16 = .ok (.iconst 1, 1) := by decide +kernel
theorem dX12_areMembers_17 : decode cX12_areMembers 17 = .ok (.goto 4, 3) := by decide +kernel
theorem dX12_areMembers_20 : decode cX12_areMembers 20 = .ok (.iconst 0, 1) := by decide +kernel
theorem dX12_areMembers_21 : decode cX12_areMembers 21 = .ok (.ireturn, 1) := by decide +kernel
theorem dX12_percent_0 : decode cX12_percent 0 = .ok (.aload_n 0, 1) := by decide +kernel
theorem dX12_percent_1 : decode cX12_percent 1 = .ok (.iconst 0, 1) := by decide +kernel
theorem dX12_percent_2 : decode cX12_percent 2 = .ok (.putfield 81, 3) := by decide +kernel
theorem dX12_percent_5 : decode cX12_percent 5 = .ok (.aload_n 0, 1) := by decide +kernel
theorem dX12_percent_6 : decode cX12_percent 6 = .ok (.iload_n 1, 1) := by decide +kernel
theorem dX12_percent_7 : decode cX12_percent 7 = .ok (.iload_n 2, 1) := by decide +kernel
theorem dX12_percent_8 : decode cX12_percent 8 = .ok (.invokevirtual 341, 3) := by decide +kernel
theorem dX12_percent_11 : decode cX12_percent 11 = .ok (.ifCond .eq 25, 3) := by decide +kernel
theorem dX12_percent_14 : decode cX12_percent 14 = .ok (.iload_n 1, 1) := by decide +kernel
theorem dX12_percent_15 : decode cX12_percent 15 = .ok (.iload_n 2, 1) := by decide +kernel
theorem dX12_percent_16 : decode cX12_percent 16 = .ok (.if_icmp .eq 20, 3) := by decide +kernel
theorem dX12_percent_19 : decode cX12_percent 19 = .ok (.iload_n 3, 1) := by decide +kernel
theorem dX12_percent_20 : decode cX12_percent 20 = .ok (.invokestatic 330, 3) := by decide +kernel
theorem dX12_percent_23 : decode cX12_percent 23 = .ok (.ifCond .eq 13, 3) := by decide +kernel
theorem dX12_percent_26 : decode cX12_percent 26 = .ok (.aload_n 0, 1) := by decide +kernel
theorem dX12_percent_27 : decode cX12_percent 27 = .ok (.iload_n 1, 1) := by decide +kernel
theorem dX12_percent_28 : decode cX12_percent 28 = .ok (.iload_n 2, 1) := by decide +kernel
theorem dX12_percent_29 : decode cX12_percent 29 = .ok (.iload_n 3, 1) := by decide +kernel
theorem dX12_percent_30 : decode cX12_percent 30 = .ok (.invokevirtual 213, 3) := by decide +kernel
theorem dX12_percent_33 : decode cX12_percent 33 = .ok (.goto 4, 3) := by decide +kernel
theorem dX12_percent_36 : decode cX12_percent 36 = .ok (.iconst (-1), 1) := by decide +kernel
theorem dX12_percent_37 : decode cX12_percent 37 = .ok (.ireturn, 1) := by decide +kernel
theorem dX12_share_0 : decode cX12_share 0 = .ok (.aload_n 0, 1) := by decide +kernel
theorem dX12_share_1 : decode cX12_share 1 = .ok (.iconst 0, 1) := by decide +kernel
theorem dX12_share_2 : decode cX12_share 2 = .ok (.putfield 81, 3) := by decide +kernel
theorem dX12_share_5 : decode cX12_share 5 = .ok (.aload_n 0, 1) := by decide +kernel
theorem dX12_share_6 : decode cX12_share 6 = .ok (.iload_n 1, 1) := by decide +kernel
theorem dX12_share_7 : decode cX12_share 7 = .ok (.iload_n 2, 1) := by decide +kernel
theorem dX12_share_8 : decode cX12_share 8 = .ok (.invokevirtual 341, 3) := by decide +kernel
theorem dX12_share_11 : decode cX12_share 11 = .ok (.ifCond .eq 10, 3) := by decide +kernel
theorem dX12_share_14 : decode cX12_share 14 = .ok (.iload_n 3, 1) := by decide +kernel
theorem dX12_share_15 : decode cX12_share 15 = .ok (.invokestatic 330, 3) := by decide +kernel
theorem dX12_share_18 : decode cX12_share 18 = .ok (.ifCond .ne 5, 3) := by decide +kernel
theorem dX12_share_21 : decode cX12_share 21 = .ok (.iconst (-1), 1) := by decide +kernel
theorem dX12_share_22 : decode cX12_share 22 = .ok (.ireturn, 1) := by decide +kernel
theorem dX12_share_23 : decode cX12_share 23 = .ok (.aload_n 0, 1) := by decide +kernel
theorem dX12_share_24 : decode cX12_share 24 = .ok (.iload_n 3, 1) := by decide +kernel
theorem dX12_share_25 : decode cX12_share 25 = .ok (.invokevirtual 223, 3) := by decide +kernel
theorem dX12_share_28 : decode cX12_share 28 = .ok (.aload_n 0, 1) := by decide +kernel
theorem dX12_share_29 : decode cX12_share 29 = .ok (.getfield 35, 3) := by decide +kernel
theorem dX12_share_32 : decode cX12_share 32 = .ok (.bipush 8, 2) := by decide +kernel
theorem dX12_share_34 : decode cX12_share 34 = .ok (.iload_n 1, 1) := by decide +kernel
theorem dX12_share_35 : decode cX12_share 35 = .ok (.imul, 1) := by decide +kernel
theorem dX12_share_36 : decode cX12_share 36 = .ok (.iload_n 2, 1) := by decide +kernel
theorem dX12_share_37 : decode cX12_share 37 = .ok (.iadd, 1) := by decide +kernel
theorem dX12_share_38 : decode cX12_share 38 = .ok (.faload, 1) := by decide +kernel
theorem dX12_share_39 : decode cX12_share 39 = .ok (.invokestatic 344, 3) := by decide +kernel
theorem dX12_share_42 : decode cX12_share 42 = .ok (.ireturn, 1) := by decide +kernel
theorem dX12_parts_0 : decode cX12_parts 0 = .ok (.aload_n 0, 1) := by decide +kernel
theorem dX12_parts_1 : decode cX12_parts 1 = .ok (.iconst 0, 1) := by decide +kernel
theorem dX12_parts_2 : decode cX12_parts 2 = .ok (.putfield 81, 3) := by decide +kernel
theorem dX12_parts_5 : decode cX12_parts 5 = .ok (.aload_n 0, 1) := by decide +kernel
theorem dX12_parts_6 : decode cX12_parts 6 = .ok (.iload_n 1, 1) := by decide +kernel
theorem dX12_parts_7 : decode cX12_parts 7 = .ok (.iload_n 2, 1) := by decide +kernel
theorem dX12_parts_8 : decode cX12_parts 8 = .ok (.invokevirtual 341, 3) := by decide +kernel
theorem dX12_parts_11 : decode cX12_parts 11 = .ok (.ifCond .eq 10, 3) := by decide +kernel
theorem dX12_parts_14 : decode cX12_parts 14 = .ok (.iload_n 3, 1) := by decide +kernel
theorem dX12_parts_15 : decode cX12_parts 15 = .ok (.invokestatic 330, 3) := by decide +kernel
theorem dX12_parts_18 : decode cX12_parts 18 = .ok (.ifCond .ne 5, 3) := by decide +kernel
theorem dX12_parts_21 : decode cX12_parts 21 = .ok (.iconst (-1), 1) := by decide +kernel
theorem dX12_parts_22 : decode cX12_parts 22 = .ok (.ireturn, 1) := by decide +kernel
theorem dX12_parts_23 : decode cX12_parts 23 = .ok (.aload_n 0, 1) := by decide +kernel
theorem dX12_parts_24 : decode cX12_parts 24 = .ok (.iload_n 3, 1) := by decide +kernel
theorem dX12_parts_25 : decode cX12_parts 25 = .ok (.invokevirtual 223, 3) := by decide +kernel
theorem dX12_parts_28 : decode cX12_parts 28 = .ok (.aload_n 0, 1) := by decide +kernel
theorem dX12_parts_29 : decode cX12_parts 29 = .ok (.getfield 35, 3) := by decide +kernel
theorem dX12_parts_32 : decode cX12_parts 32 = .ok (.bipush 8, 2) := by decide +kernel
theorem dX12_parts_34 : decode cX12_parts 34 = .ok (.iload_n 1, 1) := by decide +kernel
theorem dX12_parts_35 : decode cX12_parts 35 = .ok (.imul, 1) := by decide +kernel
theorem dX12_parts_36 : decode cX12_parts 36 = .ok (.iload_n 2, 1) := by decide +kernel
theorem dX12_parts_37 : decode cX12_parts 37 = .ok (.iadd, 1) := by decide +kernel
theorem dX12_parts_38 : decode cX12_parts 38 = .ok (.faload, 1) := by decide +kernel
theorem dX12_parts_39 : decode cX12_parts 39 = .ok (.f2d, 1) := by decide +kernel
theorem dX12_parts_40 : decode cX12_parts 40 = .ok (.ldc2_w 350, 3) := by decide +kernel
theorem dX12_parts_43 : decode cX12_parts 43 = .ok (.dmul, 1) := by decide +kernel
theorem dX12_parts_44 : decode cX12_parts 44 = .ok (.ldc2_w 352, 3) := by decide +kernel
theorem dX12_parts_47 : decode cX12_parts 47 = .ok (.dadd, 1) := by decide +kernel
theorem dX12_parts_48 : decode cX12_parts 48 = .ok (.d2i, 1) := by decide +kernel
theorem dX12_parts_49 : decode cX12_parts 49 = .ok (.ireturn, 1) := by decide +kernel
theorem dX12_controls_0 : decode cX12_controls 0 = .ok (.aload_n 0, 1) := by decide +kernel
theorem dX12_controls_1 : decode cX12_controls 1 = .ok (.iconst 0, 1) := by decide +kernel
theorem dX12_controls_2 : decode cX12_controls 2 = .ok (.putfield 81, 3) := by decide +kernel
theorem dX12_controls_5 : decode cX12_controls 5 = .ok (.aload_n 0, 1) := by decide +kernel
theorem dX12_controls_6 : decode cX12_controls 6 = .ok (.iload_n 1, 1) := by decide +kernel
theorem dX12_controls_7 : decode cX12_controls 7 = .ok (.iload_n 2, 1) := by decide +kernel
theorem dX12_controls_8 : decode cX12_controls 8 = .ok (.invokevirtual 341, 3) := by decide +kernel
theorem dX12_controls_11 : decode cX12_controls 11 = .ok (.ifCond .eq 15, 3) := by decide +kernel
theorem dX12_controls_14 : decode cX12_controls 14 = .ok (.iload_n 1, 1) := by decide +kernel
theorem dX12_controls_15 : decode cX12_controls 15 = .ok (.iload_n 2, 1) := by decide +kernel
theorem dX12_controls_16 : decode cX12_controls 16 = .ok (.if_icmp .eq 10, 3) := by decide +kernel
theorem dX12_controls_19 : decode cX12_controls 19 = .ok (.iload_n 3, 1) := by decide +kernel
theorem dX12_controls_20 : decode cX12_controls 20 = .ok (.invokestatic 330, 3) := by decide +kernel
theorem dX12_controls_23 : decode cX12_controls 23 = .ok (.ifCond .ne 5, 3) := by decide +kernel
theorem dX12_controls_26 : decode cX12_controls 26 = .ok (.iconst (-1), 1) := by decide +kernel
theorem dX12_controls_27 : decode cX12_controls 27 = .ok (.ireturn, 1) := by decide +kernel
theorem dX12_controls_28 : decode cX12_controls 28 = .ok (.aload_n 0, 1) := by decide +kernel
theorem dX12_controls_29 : decode cX12_controls 29 = .ok (.iload_n 3, 1) := by decide +kernel
theorem dX12_controls_30 : decode cX12_controls 30 = .ok (.invokevirtual 223, 3) := by decide +kernel
theorem dX12_controls_33 : decode cX12_controls 33 = .ok (.aload_n 0, 1) := by decide +kernel
theorem dX12_controls_34 : decode cX12_controls 34 = .ok (.iload_n 1, 1) := by decide +kernel
theorem dX12_controls_35 : decode cX12_controls 35 = .ok (.iload_n 2, 1) := by decide +kernel
theorem dX12_controls_36 : decode cX12_controls 36 = .ok (.aload_n 0, 1) := by decide +kernel
theorem dX12_controls_37 : decode cX12_controls 37 = .ok (.getfield 29, 3) := by decide +kernel
theorem dX12_controls_40 : decode cX12_controls 40 = .ok (.iconst 0, 1) := by decide +kernel
theorem dX12_controls_41 : decode cX12_controls 41 = .ok (.iaload, 1) := by decide +kernel
theorem dX12_controls_42 : decode cX12_controls 42 = .ok (.invokevirtual 217, 3) := by decide +kernel
theorem dX12_controls_45 : decode cX12_controls 45 = .ok (.ifCond .eq 7, 3) := by decide +kernel
theorem dX12_controls_48 : decode cX12_controls 48 = .ok (.iconst 1, 1) := by decide +kernel
theorem dX12_controls_49 : decode cX12_controls 49 = .ok (.goto 4, 3) := by decide +kernel
theorem dX12_controls_52 : decode cX12_controls 52 = .ok (.iconst 0, 1) := by decide +kernel
theorem dX12_controls_53 : decode cX12_controls 53 = .ok (.ireturn, 1) := by decide +kernel
theorem dX12_relatedTo_0 : decode cX12_relatedTo 0 = .ok (.iconst 0, 1) := by decide +kernel
theorem dX12_relatedTo_1 : decode cX12_relatedTo 1 = .ok (.istore_n 2, 1) := by decide +kernel
theorem dX12_relatedTo_2 : decode cX12_relatedTo 2 = .ok (.iconst 0, 1) := by decide +kernel
theorem dX12_relatedTo_3 : decode cX12_relatedTo 3 = .ok (.istore_n 3, 1) := by decide +kernel
theorem dX12_relatedTo_4 : decode cX12_relatedTo 4 = .ok (.iload_n 3, 1) := by decide +kernel
theorem dX12_relatedTo_5 : decode cX12_relatedTo 5 = .ok (.aload_n 0, 1) := by decide +kernel
theorem dX12_relatedTo_6 : decode cX12_relatedTo 6 = .ok (.getfield 132, 3) := by decide +kernel
theorem dX12_relatedTo_9 : decode cX12_relatedTo 9 = .ok (.if_icmp .ge 34, 3) := by decide +kernel
theorem dX12_relatedTo_12 : decode cX12_relatedTo 12 = .ok (.iload_n 2, 1) := by decide +kernel
theorem dX12_relatedTo_13 : decode cX12_relatedTo 13 = .ok (.aload_n 0, 1) := by decide +kernel
theorem dX12_relatedTo_14 : decode cX12_relatedTo 14 = .ok (.iload_n 1, 1) := by decide +kernel
theorem dX12_relatedTo_15 : decode cX12_relatedTo 15 = .ok (.iload_n 3, 1) := by decide +kernel
theorem dX12_relatedTo_16 : decode cX12_relatedTo 16 = .ok (.aload_n 0, 1) := by decide +kernel
theorem dX12_relatedTo_17 : decode cX12_relatedTo 17 = .ok (.getfield 29, 3) := by decide +kernel
theorem dX12_relatedTo_20 : decode cX12_relatedTo 20 = .ok (.iconst 0, 1) := by decide +kernel
theorem dX12_relatedTo_21 : decode cX12_relatedTo 21 = .ok (.iaload, 1) := by decide +kernel
theorem dX12_relatedTo_22 : decode cX12_relatedTo 22 = .ok (.invokevirtual 227, 3) := by decide +kernel
theorem dX12_relatedTo_25 : decode cX12_relatedTo 25 = .ok (.ifCond .eq 9, 3) := by decide +kernel
theorem dX12_relatedTo_28 : decode cX12_relatedTo 28 = .ok (.iconst 1, 1) := by decide +kernel
theorem dX12_relatedTo_29 : decode cX12_relatedTo 29 = .ok (.iload_n 3, 1) := by decide +kernel
theorem dX12_relatedTo_30 : decode cX12_relatedTo 30 = .ok (.ishl, 1) := by decide +kernel
theorem dX12_relatedTo_31 : decode cX12_relatedTo 31 = .ok (.goto 4, 3) := by decide +kernel
theorem dX12_relatedTo_34 : decode cX12_relatedTo 34 = .ok (.iconst 0, 1) := by decide +kernel
theorem dX12_relatedTo_35 : decode cX12_relatedTo 35 = .ok (.ior, 1) := by decide +kernel
theorem dX12_relatedTo_36 : decode cX12_relatedTo 36 = .ok (.istore_n 2, 1) := by decide +kernel
theorem dX12_relatedTo_37 : decode cX12_relatedTo 37 = .ok (.iinc 3 1, 3) := by decide +kernel
theorem dX12_relatedTo_40 : decode cX12_relatedTo 40 = .ok (.goto (-36), 3) := by decide +kernel
theorem dX12_relatedTo_43 : decode cX12_relatedTo 43 = .ok (.iload_n 2, 1) := by decide +kernel
theorem dX12_relatedTo_44 : decode cX12_relatedTo 44 = .ok (.ireturn, 1) := by decide +kernel
theorem dX12_related_0 : decode cX12_related 0 = .ok (.aload_n 0, 1) := by decide +kernel
theorem dX12_related_1 : decode cX12_related 1 = .ok (.iconst 0, 1) := by decide +kernel
theorem dX12_related_2 : decode cX12_related 2 = .ok (.putfield 81, 3) := by decide +kernel
theorem dX12_related_5 : decode cX12_related 5 = .ok (.aload_n 0, 1) := by decide +kernel
theorem dX12_related_6 : decode cX12_related 6 = .ok (.iload_n 1, 1) := by decide +kernel
theorem dX12_related_7 : decode cX12_related 7 = .ok (.invokevirtual 327, 3) := by decide +kernel
theorem dX12_related_10 : decode cX12_related 10 = .ok (.ifCond .eq 10, 3) := by decide +kernel
theorem dX12_related_13 : decode cX12_related 13 = .ok (.iload_n 2, 1) := by decide +kernel
theorem dX12_related_14 : decode cX12_related 14 = .ok (.invokestatic 330, 3) := by decide +kernel
theorem dX12_related_17 : decode cX12_related 17 = .ok (.ifCond .ne 5, 3) := by decide +kernel
theorem dX12_related_20 : decode cX12_related 20 = .ok (.iconst (-1), 1) := by decide +kernel
theorem dX12_related_21 : decode cX12_related 21 = .ok (.ireturn, 1) := by decide +kernel
theorem dX12_related_22 : decode cX12_related 22 = .ok (.aload_n 0, 1) := by decide +kernel
theorem dX12_related_23 : decode cX12_related 23 = .ok (.iload_n 2, 1) := by decide +kernel
theorem dX12_related_24 : decode cX12_related 24 = .ok (.invokevirtual 223, 3) := by decide +kernel
theorem dX12_related_27 : decode cX12_related 27 = .ok (.aload_n 0, 1) := by decide +kernel
theorem dX12_related_28 : decode cX12_related 28 = .ok (.iload_n 1, 1) := by decide +kernel
theorem dX12_related_29 : decode cX12_related 29 = .ok (.invokevirtual 354, 3) := by decide +kernel
theorem dX12_related_32 : decode cX12_related 32 = .ok (.ireturn, 1) := by decide +kernel
theorem dX12_groups_0 : decode cX12_groups 0 = .ok (.aload_n 0, 1) := by decide +kernel
theorem dX12_groups_1 : decode cX12_groups 1 = .ok (.iconst 0, 1) := by decide +kernel
theorem dX12_groups_2 : decode cX12_groups 2 = .ok (.putfield 81, 3) := by decide +kernel
theorem dX12_groups_5 : decode cX12_groups 5 = .ok (.iload_n 1, 1) := by decide +kernel
theorem dX12_groups_6 : decode cX12_groups 6 = .ok (.invokestatic 330, 3) := by decide +kernel
theorem dX12_groups_9 : decode cX12_groups 9 = .ok (.ifCond .ne 5, 3) := by decide +kernel
theorem dX12_groups_12 : decode cX12_groups 12 = .ok (.iconst (-1), 1) := by decide +kernel
theorem dX12_groups_13 : decode cX12_groups 13 = .ok (.ireturn, 1) := by decide +kernel
theorem dX12_groups_14 : decode cX12_groups 14 = .ok (.aload_n 0, 1) := by decide +kernel
theorem dX12_groups_15 : decode cX12_groups 15 = .ok (.iload_n 1, 1) := by decide +kernel
theorem dX12_groups_16 : decode cX12_groups 16 = .ok (.invokevirtual 223, 3) := by decide +kernel
theorem dX12_groups_19 : decode cX12_groups 19 = .ok (.iconst 0, 1) := by decide +kernel
theorem dX12_groups_20 : decode cX12_groups 20 = .ok (.istore_n 2, 1) := by decide +kernel
theorem dX12_groups_21 : decode cX12_groups 21 = .ok (.iconst 0, 1) := by decide +kernel
theorem dX12_groups_22 : decode cX12_groups 22 = .ok (.istore_n 3, 1) := by decide +kernel
theorem dX12_groups_23 : decode cX12_groups 23 = .ok (.iconst 0, 1) := by decide +kernel
theorem dX12_groups_24 : decode cX12_groups 24 = .ok (.istore 4, 2) := by decide +kernel
theorem dX12_groups_26 : decode cX12_groups 26 = .ok (.iload 4, 2) := by decide +kernel
theorem dX12_groups_28 : decode cX12_groups 28 = .ok (.aload_n 0, 1) := by decide +kernel
theorem dX12_groups_29 : decode cX12_groups 29 = .ok (.getfield 132, 3) := by decide +kernel
theorem dX12_groups_32 : decode cX12_groups 32 = .ok (.if_icmp .ge 97, 3) := by decide +kernel
theorem dX12_groups_35 : decode cX12_groups 35 = .ok (.iload_n 2, 1) := by decide +kernel
theorem dX12_groups_36 : decode cX12_groups 36 = .ok (.iload 4, 2) := by decide +kernel
theorem dX12_groups_38 : decode cX12_groups 38 = .ok (.ishr, 1) := by decide +kernel
theorem dX12_groups_39 : decode cX12_groups 39 = .ok (.iconst 1, 1) := by decide +kernel
theorem dX12_groups_40 : decode cX12_groups 40 = .ok (.iand, 1) := by decide +kernel
theorem dX12_groups_41 : decode cX12_groups 41 = .ok (.iconst 1, 1) := by decide +kernel
theorem dX12_groups_42 : decode cX12_groups 42 = .ok (.if_icmp .ne 6, 3) := by decide +kernel
theorem dX12_groups_45 : decode cX12_groups 45 = .ok (.goto 78, 3) := by decide +kernel
theorem dX12_groups_48 : decode cX12_groups 48 = .ok (.iinc 3 1, 3) := by decide +kernel
theorem dX12_groups_51 : decode cX12_groups 51 = .ok (.iconst 1, 1) := by decide +kernel
theorem dX12_groups_52 : decode cX12_groups 52 = .ok (.iload 4, 2) := by decide +kernel
theorem dX12_groups_54 : decode cX12_groups 54 = .ok (.ishl, 1) := by decide +kernel
theorem dX12_groups_55 : decode cX12_groups 55 = .ok (.istore 5, 2) := by decide +kernel
theorem dX12_groups_57 : decode cX12_groups 57 = .ok (.iconst 0, 1) := by decide +kernel
theorem dX12_groups_58 : decode cX12_groups 58 = .ok (.istore 6, 2) := by decide +kernel
theorem dX12_groups_60 : decode cX12_groups 60 = .ok (.iload 5, 2) := by decide +kernel
theorem dX12_groups_62 : decode cX12_groups 62 = .ok (.iload 6, 2) := by decide +kernel
theorem dX12_groups_64 : decode cX12_groups 64 = .ok (.if_icmp .eq 54, 3) := by decide +kernel
theorem dX12_groups_67 : decode cX12_groups 67 = .ok (.iload 5, 2) := by decide +kernel
theorem dX12_groups_69 : decode cX12_groups 69 = .ok (.istore 6, 2) := by decide +kernel
theorem dX12_groups_71 : decode cX12_groups 71 = .ok (.iconst 0, 1) := by decide +kernel
theorem dX12_groups_72 : decode cX12_groups 72 = .ok (.istore 7, 2) := by decide +kernel
theorem dX12_groups_74 : decode cX12_groups 74 = .ok (.iload 7, 2) := by decide +kernel
theorem dX12_groups_76 : decode cX12_groups 76 = .ok (.aload_n 0, 1) := by decide +kernel
theorem dX12_groups_77 : decode cX12_groups 77 = .ok (.getfield 132, 3) := by decide +kernel
theorem dX12_groups_80 : decode cX12_groups 80 = .ok (.if_icmp .ge 35, 3) := by decide +kernel
theorem dX12_groups_83 : decode cX12_groups 83 = .ok (.iload 5, 2) := by decide +kernel
theorem dX12_groups_85 : decode cX12_groups 85 = .ok (.iload 6, 2) := by decide +kernel
theorem dX12_groups_87 : decode cX12_groups 87 = .ok (.iload 7, 2) := by decide +kernel
theorem dX12_groups_89 : decode cX12_groups 89 = .ok (.ishr, 1) := by decide +kernel
theorem dX12_groups_90 : decode cX12_groups 90 = .ok (.iconst 1, 1) := by decide +kernel
theorem dX12_groups_91 : decode cX12_groups 91 = .ok (.iand, 1) := by decide +kernel
theorem dX12_groups_92 : decode cX12_groups 92 = .ok (.iconst 1, 1) := by decide +kernel
theorem dX12_groups_93 : decode cX12_groups 93 = .ok (.if_icmp .ne 12, 3) := by decide +kernel
theorem dX12_groups_96 : decode cX12_groups 96 = .ok (.aload_n 0, 1) := by decide +kernel
theorem dX12_groups_97 : decode cX12_groups 97 = .ok (.iload 7, 2) := by decide +kernel
theorem dX12_groups_99 : decode cX12_groups 99 = .ok (.invokevirtual 354, 3) := by decide +kernel
theorem dX12_groups_102 : decode cX12_groups 102 = .ok (.goto 4, 3) := by decide +kernel
theorem dX12_groups_105 : decode cX12_groups 105 = .ok (.iconst 0, 1) := by decide +kernel
theorem dX12_groups_106 : decode cX12_groups 106 = .ok (.ior, 1) := by decide +kernel
theorem dX12_groups_107 : decode cX12_groups 107 = .ok (.istore 5, 2) := by decide +kernel
theorem dX12_groups_109 : decode cX12_groups 109 = .ok (.iinc 7 1, 3) := by decide +kernel
theorem dX12_groups_112 : decode cX12_groups 112 = .ok (.goto (-38), 3) := by decide +kernel
theorem dX12_groups_115 : decode cX12_groups 115 = .ok (.goto (-55), 3) := by decide +kernel
theorem dX12_groups_118 : decode cX12_groups 118 = .ok (.iload_n 2, 1) := by decide +kernel
theorem dX12_groups_119 : decode cX12_groups 119 = .ok (.iload 5, 2) := by decide +kernel
theorem dX12_groups_121 : decode cX12_groups 121 = .ok (.ior, 1) := by decide +kernel
theorem dX12_groups_122 : decode cX12_groups 122 = .ok (.istore_n 2, 1) := by decide +kernel
theorem dX12_groups_123 : decode cX12_groups 123 = .ok (.iinc 4 1, 3) := by decide +kernel
theorem dX12_groups_126 : decode cX12_groups 126 = .ok (.goto (-100), 3) := by decide +kernel
theorem dX12_groups_129 : decode cX12_groups 129 = .ok (.iload_n 3, 1) := by decide +kernel
theorem dX12_groups_130 : decode cX12_groups 130 = .ok (.ireturn, 1) := by decide +kernel
theorem dX12_shared_0 : decode cX12_shared 0 = .ok (.aload_n 0, 1) := by decide +kernel
theorem dX12_shared_1 : decode cX12_shared 1 = .ok (.iconst 0, 1) := by decide +kernel
theorem dX12_shared_2 : decode cX12_shared 2 = .ok (.putfield 81, 3) := by decide +kernel
theorem dX12_shared_5 : decode cX12_shared 5 = .ok (.aload_n 0, 1) := by decide +kernel
theorem dX12_shared_6 : decode cX12_shared 6 = .ok (.iload_n 1, 1) := by decide +kernel
theorem dX12_shared_7 : decode cX12_shared 7 = .ok (.invokevirtual 246, 3) := by decide +kernel
theorem dX12_shared_10 : decode cX12_shared 10 = .ok (.ifCond .eq 24, 3) := by decide +kernel
theorem dX12_shared_13 : decode cX12_shared 13 = .ok (.aload_n 0, 1) := by decide +kernel
theorem dX12_shared_14 : decode cX12_shared 14 = .ok (.iload_n 2, 1) := by decide +kernel
theorem dX12_shared_15 : decode cX12_shared 15 = .ok (.invokevirtual 246, 3) := by decide +kernel
theorem dX12_shared_18 : decode cX12_shared 18 = .ok (.ifCond .eq 16, 3) := by decide +kernel
theorem dX12_shared_21 : decode cX12_shared 21 = .ok (.aload_n 0, 1) := by decide +kernel
theorem dX12_shared_22 : decode cX12_shared 22 = .ok (.iload_n 1, 1) := by decide +kernel
theorem dX12_shared_23 : decode cX12_shared 23 = .ok (.invokevirtual 239, 3) := by decide +kernel
theorem dX12_shared_26 : decode cX12_shared 26 = .ok (.aload_n 0, 1) := by decide +kernel
theorem dX12_shared_27 : decode cX12_shared 27 = .ok (.iload_n 2, 1) := by decide +kernel
theorem dX12_shared_28 : decode cX12_shared 28 = .ok (.invokevirtual 239, 3) := by decide +kernel
theorem dX12_shared_31 : decode cX12_shared 31 = .ok (.if_icmp .ne 5, 3) := by decide +kernel
theorem dX12_shared_34 : decode cX12_shared 34 = .ok (.iconst (-1), 1) := by decide +kernel
theorem dX12_shared_35 : decode cX12_shared 35 = .ok (.ireturn, 1) := by decide +kernel
theorem dX12_shared_36 : decode cX12_shared 36 = .ok (.aload_n 0, 1) := by decide +kernel
theorem dX12_shared_37 : decode cX12_shared 37 = .ok (.aload_n 0, 1) := by decide +kernel
theorem dX12_shared_38 : decode cX12_shared 38 = .ok (.getfield 29, 3) := by decide +kernel
theorem dX12_shared_41 : decode cX12_shared 41 = .ok (.iconst 0, 1) := by decide +kernel
theorem dX12_shared_42 : decode cX12_shared 42 = .ok (.iaload, 1) := by decide +kernel
theorem dX12_shared_43 : decode cX12_shared 43 = .ok (.invokevirtual 261, 3) := by decide +kernel
theorem dX12_shared_46 : decode cX12_shared 46 = .ok (.aload_n 0, 1) := by decide +kernel
theorem dX12_shared_47 : decode cX12_shared 47 = .ok (.iload_n 1, 1) := by decide +kernel
theorem dX12_shared_48 : decode cX12_shared 48 = .ok (.iload_n 2, 1) := by decide +kernel
theorem dX12_shared_49 : decode cX12_shared 49 = .ok (.invokevirtual 255, 3) := by decide +kernel
theorem dX12_shared_52 : decode cX12_shared 52 = .ok (.ireturn, 1) := by decide +kernel
theorem dX12_bound_0 : decode cX12_bound 0 = .ok (.aload_n 0, 1) := by decide +kernel
theorem dX12_bound_1 : decode cX12_bound 1 = .ok (.iconst 0, 1) := by decide +kernel
theorem dX12_bound_2 : decode cX12_bound 2 = .ok (.putfield 81, 3) := by decide +kernel
theorem dX12_bound_5 : decode cX12_bound 5 = .ok (.aload_n 0, 1) := by decide +kernel
theorem dX12_bound_6 : decode cX12_bound 6 = .ok (.iload_n 1, 1) := by decide +kernel
theorem dX12_bound_7 : decode cX12_bound 7 = .ok (.iload_n 2, 1) := by decide +kernel
theorem dX12_bound_8 : decode cX12_bound 8 = .ok (.invokevirtual 267, 3) := by decide +kernel
theorem dX12_bound_11 : decode cX12_bound 11 = .ok (.ifCond .ne 5, 3) := by decide +kernel
theorem dX12_bound_14 : decode cX12_bound 14 = .ok (.iconst (-1), 1) := by decide +kernel
theorem dX12_bound_15 : decode cX12_bound 15 = .ok (.ireturn, 1) := by decide +kernel
theorem dX12_bound_16 : decode cX12_bound 16 = .ok (.aload_n 0, 1) := by decide +kernel
theorem dX12_bound_17 : decode cX12_bound 17 = .ok (.aload_n 0, 1) := by decide +kernel
theorem dX12_bound_18 : decode cX12_bound 18 = .ok (.getfield 29, 3) := by decide +kernel
theorem dX12_bound_21 : decode cX12_bound 21 = .ok (.iconst 0, 1) := by decide +kernel
theorem dX12_bound_22 : decode cX12_bound 22 = .ok (.iaload, 1) := by decide +kernel
theorem dX12_bound_23 : decode cX12_bound 23 = .ok (.invokevirtual 261, 3) := by decide +kernel
theorem dX12_bound_26 : decode cX12_bound 26 = .ok (.aload_n 0, 1) := by decide +kernel
theorem dX12_bound_27 : decode cX12_bound 27 = .ok (.iload_n 1, 1) := by decide +kernel
theorem dX12_bound_28 : decode cX12_bound 28 = .ok (.iload_n 2, 1) := by decide +kernel
theorem dX12_bound_29 : decode cX12_bound 29 = .ok (.invokevirtual 270, 3) := by decide +kernel
theorem dX12_bound_32 : decode cX12_bound 32 = .ok (.ireturn, 1) := by decide +kernel
theorem dX12_room_0 : decode cX12_room 0 = .ok (.aload_n 0, 1) := by decide +kernel
theorem dX12_room_1 : decode cX12_room 1 = .ok (.iconst 0, 1) := by decide +kernel
theorem dX12_room_2 : decode cX12_room 2 = .ok (.putfield 81, 3) := by decide +kernel
theorem dX12_room_5 : decode cX12_room 5 = .ok (.aload_n 0, 1) := by decide +kernel
theorem dX12_room_6 : decode cX12_room 6 = .ok (.iload_n 1, 1) := by decide +kernel
theorem dX12_room_7 : decode cX12_room 7 = .ok (.iload_n 2, 1) := by decide +kernel
theorem dX12_room_8 : decode cX12_room 8 = .ok (.invokevirtual 267, 3) := by decide +kernel
theorem dX12_room_11 : decode cX12_room 11 = .ok (.ifCond .ne 5, 3) := by decide +kernel
theorem dX12_room_14 : decode cX12_room 14 = .ok (.iconst (-1), 1) := by decide +kernel
theorem dX12_room_15 : decode cX12_room 15 = .ok (.ireturn, 1) := by decide +kernel
theorem dX12_room_16 : decode cX12_room 16 = .ok (.aload_n 0, 1) := by decide +kernel
theorem dX12_room_17 : decode cX12_room 17 = .ok (.aload_n 0, 1) := by decide +kernel
theorem dX12_room_18 : decode cX12_room 18 = .ok (.getfield 29, 3) := by decide +kernel
theorem dX12_room_21 : decode cX12_room 21 = .ok (.iconst 0, 1) := by decide +kernel
theorem dX12_room_22 : decode cX12_room 22 = .ok (.iaload, 1) := by decide +kernel
theorem dX12_room_23 : decode cX12_room 23 = .ok (.invokevirtual 261, 3) := by decide +kernel
theorem dX12_room_26 : decode cX12_room 26 = .ok (.aload_n 0, 1) := by decide +kernel
theorem dX12_room_27 : decode cX12_room 27 = .ok (.iload_n 1, 1) := by decide +kernel
theorem dX12_room_28 : decode cX12_room 28 = .ok (.iload_n 2, 1) := by decide +kernel
theorem dX12_room_29 : decode cX12_room 29 = .ok (.invokevirtual 270, 3) := by decide +kernel
theorem dX12_room_32 : decode cX12_room 32 = .ok (.aload_n 0, 1) := by decide +kernel
theorem dX12_room_33 : decode cX12_room 33 = .ok (.iload_n 1, 1) := by decide +kernel
theorem dX12_room_34 : decode cX12_room 34 = .ok (.iload_n 2, 1) := by decide +kernel
theorem dX12_room_35 : decode cX12_room 35 = .ok (.invokevirtual 273, 3) := by decide +kernel
theorem dX12_room_38 : decode cX12_room 38 = .ok (.isub, 1) := by decide +kernel
theorem dX12_room_39 : decode cX12_room 39 = .ok (.ireturn, 1) := by decide +kernel
theorem dX12_price_0 : decode cX12_price 0 = .ok (.aload_n 0, 1) := by decide +kernel
theorem dX12_price_1 : decode cX12_price 1 = .ok (.iconst 0, 1) := by decide +kernel
theorem dX12_price_2 : decode cX12_price 2 = .ok (.putfield 81, 3) := by decide +kernel
theorem dX12_price_5 : decode cX12_price 5 = .ok (.aload_n 0, 1) := by decide +kernel
theorem dX12_price_6 : decode cX12_price 6 = .ok (.iload_n 1, 1) := by decide +kernel
theorem dX12_price_7 : decode cX12_price 7 = .ok (.iload_n 2, 1) := by decide +kernel
theorem dX12_price_8 : decode cX12_price 8 = .ok (.invokevirtual 267, 3) := by decide +kernel
theorem dX12_price_11 : decode cX12_price 11 = .ok (.ifCond .eq 12, 3) := by decide +kernel
theorem dX12_price_14 : decode cX12_price 14 = .ok (.aload_n 0, 1) := by decide +kernel
theorem dX12_price_15 : decode cX12_price 15 = .ok (.iload_n 1, 1) := by decide +kernel
theorem dX12_price_16 : decode cX12_price 16 = .ok (.iload_n 2, 1) := by decide +kernel
theorem dX12_price_17 : decode cX12_price 17 = .ok (.invokevirtual 280, 3) := by decide +kernel
theorem dX12_price_20 : decode cX12_price 20 = .ok (.goto 4, 3) := by decide +kernel
theorem dX12_price_23 : decode cX12_price 23 = .ok (.iconst (-1), 1) := by decide +kernel
theorem dX12_price_24 : decode cX12_price 24 = .ok (.ireturn, 1) := by decide +kernel
theorem dX12_relief_0 : decode cX12_relief 0 = .ok (.aload_n 0, 1) := by decide +kernel
theorem dX12_relief_1 : decode cX12_relief 1 = .ok (.iconst 0, 1) := by decide +kernel
theorem dX12_relief_2 : decode cX12_relief 2 = .ok (.putfield 81, 3) := by decide +kernel
theorem dX12_relief_5 : decode cX12_relief 5 = .ok (.aload_n 0, 1) := by decide +kernel
theorem dX12_relief_6 : decode cX12_relief 6 = .ok (.iload_n 1, 1) := by decide +kernel
theorem dX12_relief_7 : decode cX12_relief 7 = .ok (.iload_n 2, 1) := by decide +kernel
theorem dX12_relief_8 : decode cX12_relief 8 = .ok (.invokevirtual 267, 3) := by decide +kernel
theorem dX12_relief_11 : decode cX12_relief 11 = .ok (.ifCond .ne 5, 3) := by decide +kernel
theorem dX12_relief_14 : decode cX12_relief 14 = .ok (.iconst (-1), 1) := by decide +kernel
theorem dX12_relief_15 : decode cX12_relief 15 = .ok (.ireturn, 1) := by decide +kernel
theorem dX12_relief_16 : decode cX12_relief 16 = .ok (.aload_n 0, 1) := by decide +kernel
theorem dX12_relief_17 : decode cX12_relief 17 = .ok (.invokevirtual 324, 3) := by decide +kernel
theorem dX12_relief_20 : decode cX12_relief 20 = .ok (.pop, 1) := by decide +kernel
theorem dX12_relief_21 : decode cX12_relief 21 = .ok (.aload_n 0, 1) := by decide +kernel
theorem dX12_relief_22 : decode cX12_relief 22 = .ok (.getfield 54, 3) := by decide +kernel
theorem dX12_relief_25 : decode cX12_relief 25 = .ok (.bipush 12, 2) := by decide +kernel
theorem dX12_relief_27 : decode cX12_relief 27 = .ok (.iload_n 1, 1) := by decide +kernel
theorem dX12_relief_28 : decode cX12_relief 28 = .ok (.imul, 1) := by decide +kernel
theorem dX12_relief_29 : decode cX12_relief 29 = .ok (.iload_n 2, 1) := by decide +kernel
theorem dX12_relief_30 : decode cX12_relief 30 = .ok (.iadd, 1) := by decide +kernel
theorem dX12_relief_31 : decode cX12_relief 31 = .ok (.iaload, 1) := by decide +kernel
theorem dX12_relief_32 : decode cX12_relief 32 = .ok (.ireturn, 1) := by decide +kernel
theorem dX12_solved_0 : decode cX12_solved 0 = .ok (.aload_n 0, 1) := by decide +kernel
theorem dX12_solved_1 : decode cX12_solved 1 = .ok (.iconst 0, 1) := by decide +kernel
theorem dX12_solved_2 : decode cX12_solved 2 = .ok (.putfield 81, 3) := by decide +kernel
theorem dX12_solved_5 : decode cX12_solved 5 = .ok (.iload_n 1, 1) := by decide +kernel
theorem dX12_solved_6 : decode cX12_solved 6 = .ok (.iconst 0, 1) := by decide +kernel
theorem dX12_solved_7 : decode cX12_solved 7 = .ok (.iconst 3, 1) := by decide +kernel
theorem dX12_solved_8 : decode cX12_solved 8 = .ok (.invokestatic 165, 3) := by decide +kernel
theorem dX12_solved_11 : decode cX12_solved 11 = .ok (.ifCond .ne 7, 3) := by decide +kernel
theorem dX12_solved_14 : decode cX12_solved 14 = .ok (.ldc2_w 357, 3) := by decide +kernel
theorem dX12_solved_17 : decode cX12_solved 17 = .ok (.lreturn, 1) := by decide +kernel
theorem dX12_solved_18 : decode cX12_solved 18 = .ok (.aload_n 0, 1) := by decide +kernel
theorem dX12_solved_19 : decode cX12_solved 19 = .ok (.invokevirtual 324, 3) := by decide +kernel
theorem dX12_solved_22 : decode cX12_solved 22 = .ok (.istore_n 2, 1) := by decide +kernel
theorem dX12_solved_23 : decode cX12_solved 23 = .ok (.iload_n 1, 1) := by decide +kernel
theorem dX12_solved_24 : decode cX12_solved 24 = .ok (.ifCond .ne 6, 3) := by decide +kernel
theorem dX12_solved_27 : decode cX12_solved 27 = .ok (.iload_n 2, 1) := by decide +kernel
theorem dX12_solved_28 : decode cX12_solved 28 = .ok (.i2l, 1) := by decide +kernel
theorem dX12_solved_29 : decode cX12_solved 29 = .ok (.lreturn, 1) := by decide +kernel
theorem dX12_solved_30 : decode cX12_solved 30 = .ok (.iload_n 1, 1) := by decide +kernel
theorem dX12_solved_31 : decode cX12_solved 31 = .ok (.iconst 2, 1) := by decide +kernel
theorem dX12_solved_32 : decode cX12_solved 32 = .ok (.if_icmp .ne 9, 3) := by decide +kernel
theorem dX12_solved_35 : decode cX12_solved 35 = .ok (.aload_n 0, 1) := by decide +kernel
theorem dX12_solved_36 : decode cX12_solved 36 = .ok (.getfield 289, 3) := by decide +kernel
theorem dX12_solved_39 : decode cX12_solved 39 = .ok (.i2l, 1) := by decide +kernel
theorem dX12_solved_40 : decode cX12_solved 40 = .ok (.lreturn, 1) := by decide +kernel
theorem dX12_solved_41 : decode cX12_solved 41 = .ok (.lconst 0, 1) := by decide +kernel
theorem dX12_solved_42 : decode cX12_solved 42 = .ok (.lstore_n 3, 1) := by decide +kernel
theorem dX12_solved_43 : decode cX12_solved 43 = .ok (.iconst 0, 1) := by decide +kernel
theorem dX12_solved_44 : decode cX12_solved 44 = .ok (.istore 5, 2) := by decide +kernel
theorem dX12_solved_46 : decode cX12_solved 46 = .ok (.iconst 0, 1) := by decide +kernel
theorem dX12_solved_47 : decode cX12_solved 47 = .ok (.istore 6, 2) := by decide +kernel
theorem dX12_solved_49 : decode cX12_solved 49 = .ok (.iload 6, 2) := by decide +kernel
theorem dX12_solved_51 : decode cX12_solved 51 = .ok (.sipush 144, 3) := by decide +kernel
theorem dX12_solved_54 : decode cX12_solved 54 = .ok (.if_icmp .ge 52, 3) := by decide +kernel
theorem dX12_solved_57 : decode cX12_solved 57 = .ok (.aload_n 0, 1) := by decide +kernel
theorem dX12_solved_58 : decode cX12_solved 58 = .ok (.getfield 54, 3) := by decide +kernel
theorem dX12_solved_61 : decode cX12_solved 61 = .ok (.iload 6, 2) := by decide +kernel
theorem dX12_solved_63 : decode cX12_solved 63 = .ok (.iaload, 1) := by decide +kernel
theorem dX12_solved_64 : decode cX12_solved 64 = .ok (.ifCond .ne 6, 3) := by decide +kernel
theorem dX12_solved_67 : decode cX12_solved 67 = .ok (.goto 33, 3) := by decide +kernel
theorem dX12_solved_70 : decode cX12_solved 70 = .ok (.lload_n 3, 1) := by decide +kernel
theorem dX12_solved_71 : decode cX12_solved 71 = .ok (.aload_n 0, 1) := by decide +kernel
theorem dX12_solved_72 : decode cX12_solved 72 = .ok (.getfield 54, 3) := by decide +kernel
theorem dX12_solved_75 : decode cX12_solved 75 = .ok (.iload 6, 2) := by decide +kernel
theorem dX12_solved_77 : decode cX12_solved 77 = .ok (.iaload, 1) := by decide +kernel
theorem dX12_solved_78 : decode cX12_solved 78 = .ok (.i2l, 1) := by decide +kernel
theorem dX12_solved_79 : decode cX12_solved 79 = .ok (.aload_n 0, 1) := by decide +kernel
theorem dX12_solved_80 : decode cX12_solved 80 = .ok (.iload 6, 2) := by decide +kernel
theorem dX12_solved_82 : decode cX12_solved 82 = .ok (.bipush 12, 2) := by decide +kernel
theorem dX12_solved_84 : decode cX12_solved 84 = .ok (.idiv, 1) := by decide +kernel
theorem dX12_solved_85 : decode cX12_solved 85 = .ok (.iload 6, 2) := by decide +kernel
theorem dX12_solved_87 : decode cX12_solved 87 = .ok (.bipush 12, 2) := by decide +kernel
theorem dX12_solved_89 : decode cX12_solved 89 = .ok (.irem, 1) := by decide +kernel
theorem dX12_solved_90 : decode cX12_solved 90 = .ok (.invokevirtual 280, 3) := by decide +kernel
theorem dX12_solved_93 : decode cX12_solved 93 = .ok (.i2l, 1) := by decide +kernel
theorem dX12_solved_94 : decode cX12_solved 94 = .ok (.lmul, 1) := by decide +kernel
theorem dX12_solved_95 : decode cX12_solved 95 = .ok (.ladd, 1) := by decide +kernel
theorem dX12_solved_96 : decode cX12_solved 96 = .ok (.lstore_n 3, 1) := by decide +kernel
theorem dX12_solved_97 : decode cX12_solved 97 = .ok (.iinc 5 1, 3) := by decide +kernel
theorem dX12_solved_100 : decode cX12_solved 100 = .ok (.iinc 6 1, 3) := by decide +kernel
theorem dX12_solved_103 : decode cX12_solved 103 = .ok (.goto (-54), 3) := by decide +kernel
theorem dX12_solved_106 : decode cX12_solved 106 = .ok (.iload_n 1, 1) := by decide +kernel
theorem dX12_solved_107 : decode cX12_solved 107 = .ok (.iconst 1, 1) := by decide +kernel
theorem dX12_solved_108 : decode cX12_solved 108 = .ok (.if_icmp .ne 7, 3) := by decide +kernel
theorem dX12_solved_111 : decode cX12_solved 111 = .ok (.lload_n 3, 1) := by decide +kernel
theorem dX12_solved_112 : decode cX12_solved 112 = .ok (.goto 6, 3) := by decide +kernel
theorem dX12_solved_115 : decode cX12_solved 115 = .ok (.iload 5, 2) := by decide +kernel
theorem dX12_solved_117 : decode cX12_solved 117 = .ok (.i2l, 1) := by decide +kernel
theorem dX12_solved_118 : decode cX12_solved 118 = .ok (.lreturn, 1) := by decide +kernel
theorem dX12_reached_0 : decode cX12_reached 0 = .ok (.aload_n 0, 1) := by decide +kernel
theorem dX12_reached_1 : decode cX12_reached 1 = .ok (.iconst 0, 1) := by decide +kernel
theorem dX12_reached_2 : decode cX12_reached 2 = .ok (.putfield 81, 3) := by decide +kernel
theorem dX12_reached_5 : decode cX12_reached 5 = .ok (.aload_n 0, 1) := by decide +kernel
theorem dX12_reached_6 : decode cX12_reached 6 = .ok (.invokevirtual 324, 3) := by decide +kernel
theorem dX12_reached_9 : decode cX12_reached 9 = .ok (.pop, 1) := by decide +kernel
theorem dX12_reached_10 : decode cX12_reached 10 = .ok (.aload_n 0, 1) := by decide +kernel
theorem dX12_reached_11 : decode cX12_reached 11 = .ok (.invokevirtual 292, 3) := by decide +kernel
theorem dX12_reached_14 : decode cX12_reached 14 = .ok (.iconst 0, 1) := by decide +kernel
theorem dX12_reached_15 : decode cX12_reached 15 = .ok (.istore_n 1, 1) := by decide +kernel
theorem dX12_reached_16 : decode cX12_reached 16 = .ok (.iconst 0, 1) := by decide +kernel
theorem dX12_reached_17 : decode cX12_reached 17 = .ok (.istore_n 2, 1) := by decide +kernel
theorem dX12_reached_18 : decode cX12_reached 18 = .ok (.iload_n 2, 1) := by decide +kernel
theorem dX12_reached_19 : decode cX12_reached 19 = .ok (.aload_n 0, 1) := by decide +kernel
theorem dX12_reached_20 : decode cX12_reached 20 = .ok (.getfield 135, 3) := by decide +kernel
theorem dX12_reached_23 : decode cX12_reached 23 = .ok (.if_icmp .ge 28, 3) := by decide +kernel
theorem dX12_reached_26 : decode cX12_reached 26 = .ok (.iload_n 1, 1) := by decide +kernel
theorem dX12_reached_27 : decode cX12_reached 27 = .ok (.aload_n 0, 1) := by decide +kernel
theorem dX12_reached_28 : decode cX12_reached 28 = .ok (.getfield 63, 3) := by decide +kernel
theorem dX12_reached_31 : decode cX12_reached 31 = .ok (.iload_n 2, 1) := by decide +kernel
theorem dX12_reached_32 : decode cX12_reached 32 = .ok (.iaload, 1) := by decide +kernel
theorem dX12_reached_33 : decode cX12_reached 33 = .ok (.ifCond .le 9, 3) := by decide +kernel
theorem dX12_reached_36 : decode cX12_reached 36 = .ok (.iconst 1, 1) := by decide +kernel
theorem dX12_reached_37 : decode cX12_reached 37 = .ok (.iload_n 2, 1) := by decide +kernel
theorem dX12_reached_38 : decode cX12_reached 38 = .ok (.ishl, 1) := by decide +kernel
theorem dX12_reached_39 : decode cX12_reached 39 = .ok (.goto 4, 3) := by decide +kernel
theorem dX12_reached_42 : decode cX12_reached 42 = .ok (.iconst 0, 1) := by decide +kernel
theorem dX12_reached_43 : decode cX12_reached 43 = .ok (.ior, 1) := by decide +kernel
theorem dX12_reached_44 : decode cX12_reached 44 = .ok (.istore_n 1, 1) := by decide +kernel
theorem dX12_reached_45 : decode cX12_reached 45 = .ok (.iinc 2 1, 3) := by decide +kernel
theorem dX12_reached_48 : decode cX12_reached 48 = .ok (.goto (-30), 3) := by decide +kernel
theorem dX12_reached_51 : decode cX12_reached 51 = .ok (.iload_n 1, 1) := by decide +kernel
theorem dX12_reached_52 : decode cX12_reached 52 = .ok (.ireturn, 1) := by decide +kernel
theorem dX12_left_0 : decode cX12_left 0 = .ok (.aload_n 0, 1) := by decide +kernel
theorem dX12_left_1 : decode cX12_left 1 = .ok (.iconst 0, 1) := by decide +kernel
theorem dX12_left_2 : decode cX12_left 2 = .ok (.putfield 81, 3) := by decide +kernel
theorem dX12_left_5 : decode cX12_left 5 = .ok (.aload_n 0, 1) := by decide +kernel
theorem dX12_left_6 : decode cX12_left 6 = .ok (.iload_n 1, 1) := by decide +kernel
theorem dX12_left_7 : decode cX12_left 7 = .ok (.invokevirtual 246, 3) := by decide +kernel
theorem dX12_left_10 : decode cX12_left 10 = .ok (.ifCond .ne 5, 3) := by decide +kernel
theorem dX12_left_13 : decode cX12_left 13 = .ok (.iconst (-1), 1) := by decide +kernel
theorem dX12_left_14 : decode cX12_left 14 = .ok (.ireturn, 1) := by decide +kernel
theorem dX12_left_15 : decode cX12_left 15 = .ok (.aload_n 0, 1) := by decide +kernel
theorem dX12_left_16 : decode cX12_left 16 = .ok (.invokevirtual 324, 3) := by decide +kernel
theorem dX12_left_19 : decode cX12_left 19 = .ok (.pop, 1) := by decide +kernel
theorem dX12_left_20 : decode cX12_left 20 = .ok (.aload_n 0, 1) := by decide +kernel
theorem dX12_left_21 : decode cX12_left 21 = .ok (.getfield 48, 3) := by decide +kernel
theorem dX12_left_24 : decode cX12_left 24 = .ok (.iload_n 1, 1) := by decide +kernel
theorem dX12_left_25 : decode cX12_left 25 = .ok (.iaload, 1) := by decide +kernel
theorem dX12_left_26 : decode cX12_left 26 = .ok (.ireturn, 1) := by decide +kernel
theorem dX12_pays_0 : decode cX12_pays 0 = .ok (.aload_n 0, 1) := by decide +kernel
theorem dX12_pays_1 : decode cX12_pays 1 = .ok (.iconst 0, 1) := by decide +kernel
theorem dX12_pays_2 : decode cX12_pays 2 = .ok (.putfield 81, 3) := by decide +kernel
theorem dX12_pays_5 : decode cX12_pays 5 = .ok (.aload_n 0, 1) := by decide +kernel
theorem dX12_pays_6 : decode cX12_pays 6 = .ok (.iload_n 1, 1) := by decide +kernel
theorem dX12_pays_7 : decode cX12_pays 7 = .ok (.invokevirtual 327, 3) := by decide +kernel
theorem dX12_pays_10 : decode cX12_pays 10 = .ok (.ifCond .eq 12, 3) := by decide +kernel
theorem dX12_pays_13 : decode cX12_pays 13 = .ok (.iload_n 2, 1) := by decide +kernel
theorem dX12_pays_14 : decode cX12_pays 14 = .ok (.iconst 0, 1) := by decide +kernel
theorem dX12_pays_15 : decode cX12_pays 15 = .ok (.iconst 3, 1) := by decide +kernel
theorem dX12_pays_16 : decode cX12_pays 16 = .ok (.invokestatic 165, 3) := by decide +kernel
theorem dX12_pays_19 : decode cX12_pays 19 = .ok (.ifCond .ne 5, 3) := by decide +kernel
theorem dX12_pays_22 : decode cX12_pays 22 = .ok (.iconst (-1), 1) := by decide +kernel
theorem dX12_pays_23 : decode cX12_pays 23 = .ok (.ireturn, 1) := by decide +kernel
theorem dX12_pays_24 : decode cX12_pays 24 = .ok (.iconst 0, 1) := by decide +kernel
theorem dX12_pays_25 : decode cX12_pays 25 = .ok (.istore_n 3, 1) := by decide +kernel
theorem dX12_pays_26 : decode cX12_pays 26 = .ok (.iload_n 2, 1) := by decide +kernel
theorem dX12_pays_27 : decode cX12_pays 27 = .ok (.iconst 1, 1) := by decide +kernel
theorem dX12_pays_28 : decode cX12_pays 28 = .ok (.if_icmp .le 91, 3) := by decide +kernel
theorem dX12_pays_31 : decode cX12_pays 31 = .ok (.iconst 0, 1) := by decide +kernel
theorem dX12_pays_32 : decode cX12_pays 32 = .ok (.istore 4, 2) := by decide +kernel
theorem dX12_pays_34 : decode cX12_pays 34 = .ok (.iload 4, 2) := by decide +kernel
theorem dX12_pays_36 : decode cX12_pays 36 = .ok (.aload_n 0, 1) := by decide +kernel
theorem dX12_pays_37 : decode cX12_pays 37 = .ok (.iconst 0, 1) := by decide +kernel
theorem dX12_pays_38 : decode cX12_pays 38 = .ok (.invokevirtual 209, 3) := by decide +kernel
theorem dX12_pays_41 : decode cX12_pays 41 = .ok (.if_icmp .ge 76, 3) := by decide +kernel
theorem dX12_pays_44 : decode cX12_pays 44 = .ok (.iconst 1, 1) := by decide +kernel
theorem dX12_pays_45 : decode cX12_pays 45 = .ok (.iconst 3, 1) := by decide +kernel
theorem dX12_pays_46 : decode cX12_pays 46 = .ok (.iload 4, 2) := by decide +kernel
theorem dX12_pays_48 : decode cX12_pays 48 = .ok (.imul, 1) := by decide +kernel
theorem dX12_pays_49 : decode cX12_pays 49 = .ok (.iadd, 1) := by decide +kernel
theorem dX12_pays_50 : decode cX12_pays 50 = .ok (.istore 5, 2) := by decide +kernel
theorem dX12_pays_52 : decode cX12_pays 52 = .ok (.iload_n 3, 1) := by decide +kernel
theorem dX12_pays_53 : decode cX12_pays 53 = .ok (.aload_n 0, 1) := by decide +kernel
theorem dX12_pays_54 : decode cX12_pays 54 = .ok (.aload_n 0, 1) := by decide +kernel
theorem dX12_pays_55 : decode cX12_pays 55 = .ok (.iload_n 2, 1) := by decide +kernel
theorem dX12_pays_56 : decode cX12_pays 56 = .ok (.iconst 2, 1) := by decide +kernel
theorem dX12_pays_57 : decode cX12_pays 57 = .ok (.if_icmp .ne 10, 3) := by decide +kernel
theorem dX12_pays_60 : decode cX12_pays 60 = .ok (.iload 5, 2) := by decide +kernel
theorem dX12_pays_62 : decode cX12_pays 62 = .ok (.iconst 1, 1) := by decide +kernel
theorem dX12_pays_63 : decode cX12_pays 63 = .ok (.iadd, 1) := by decide +kernel
theorem dX12_pays_64 : decode cX12_pays 64 = .ok (.goto 5, 3) := by decide +kernel
theorem dX12_pays_67 : decode cX12_pays 67 = .ok (.iload 5, 2) := by decide +kernel
theorem dX12_pays_69 : decode cX12_pays 69 = .ok (.invokevirtual 209, 3) := by decide +kernel
theorem dX12_pays_72 : decode cX12_pays 72 = .ok (.invokevirtual 239, 3) := by decide +kernel
theorem dX12_pays_75 : decode cX12_pays 75 = .ok (.iload_n 1, 1) := by decide +kernel
theorem dX12_pays_76 : decode cX12_pays 76 = .ok (.if_icmp .ne 32, 3) := by decide +kernel
theorem dX12_pays_79 : decode cX12_pays 79 = .ok (.aload_n 0, 1) := by decide +kernel
theorem dX12_pays_80 : decode cX12_pays 80 = .ok (.aload_n 0, 1) := by decide +kernel
theorem dX12_pays_81 : decode cX12_pays 81 = .ok (.iload 5, 2) := by decide +kernel
theorem dX12_pays_83 : decode cX12_pays 83 = .ok (.invokevirtual 209, 3) := by decide +kernel
theorem dX12_pays_86 : decode cX12_pays 86 = .ok (.aload_n 0, 1) := by decide +kernel
theorem dX12_pays_87 : decode cX12_pays 87 = .ok (.iload 5, 2) := by decide +kernel
theorem dX12_pays_89 : decode cX12_pays 89 = .ok (.iconst 1, 1) := by decide +kernel
theorem dX12_pays_90 : decode cX12_pays 90 = .ok (.iadd, 1) := by decide +kernel
theorem dX12_pays_91 : decode cX12_pays 91 = .ok (.invokevirtual 209, 3) := by decide +kernel
theorem dX12_pays_94 : decode cX12_pays 94 = .ok (.aload_n 0, 1) := by decide +kernel
theorem dX12_pays_95 : decode cX12_pays 95 = .ok (.iload 5, 2) := by decide +kernel
theorem dX12_pays_97 : decode cX12_pays 97 = .ok (.iconst 2, 1) := by decide +kernel
theorem dX12_pays_98 : decode cX12_pays 98 = .ok (.iadd, 1) := by decide +kernel
theorem dX12_pays_99 : decode cX12_pays 99 = .ok (.invokevirtual 209, 3) := by decide +kernel
theorem dX12_pays_102 : decode cX12_pays 102 = .ok (.invokevirtual 321, 3) := by decide +kernel
theorem dX12_pays_105 : decode cX12_pays 105 = .ok (.goto 4, 3) := by decide +kernel
theorem dX12_pays_108 : decode cX12_pays 108 = .ok (.iconst 0, 1) := by decide +kernel
theorem dX12_pays_109 : decode cX12_pays 109 = .ok (.iadd, 1) := by decide +kernel
theorem dX12_pays_110 : decode cX12_pays 110 = .ok (.istore_n 3, 1) := by decide +kernel
theorem dX12_pays_111 : decode cX12_pays 111 = .ok (.iinc 4 1, 3) := by decide +kernel
theorem dX12_pays_114 : decode cX12_pays 114 = .ok (.goto (-80), 3) := by decide +kernel
theorem dX12_pays_117 : decode cX12_pays 117 = .ok (.iload_n 3, 1) := by decide +kernel
theorem dX12_pays_118 : decode cX12_pays 118 = .ok (.ireturn, 1) := by decide +kernel
theorem dX12_pays_119 : decode cX12_pays 119 = .ok (.aload_n 0, 1) := by decide +kernel
theorem dX12_pays_120 : decode cX12_pays 120 = .ok (.invokevirtual 324, 3) := by decide +kernel
theorem dX12_pays_123 : decode cX12_pays 123 = .ok (.pop, 1) := by decide +kernel
theorem dX12_pays_124 : decode cX12_pays 124 = .ok (.iconst 0, 1) := by decide +kernel
theorem dX12_pays_125 : decode cX12_pays 125 = .ok (.istore 4, 2) := by decide +kernel
theorem dX12_pays_127 : decode cX12_pays 127 = .ok (.iload 4, 2) := by decide +kernel
theorem dX12_pays_129 : decode cX12_pays 129 = .ok (.sipush 144, 3) := by decide +kernel
theorem dX12_pays_132 : decode cX12_pays 132 = .ok (.if_icmp .ge 68, 3) := by decide +kernel
theorem dX12_pays_135 : decode cX12_pays 135 = .ok (.aload_n 0, 1) := by decide +kernel
theorem dX12_pays_136 : decode cX12_pays 136 = .ok (.getfield 54, 3) := by decide +kernel
theorem dX12_pays_139 : decode cX12_pays 139 = .ok (.iload 4, 2) := by decide +kernel
theorem dX12_pays_141 : decode cX12_pays 141 = .ok (.iaload, 1) := by decide +kernel
theorem dX12_pays_142 : decode cX12_pays 142 = .ok (.ifCond .le 52, 3) := by decide +kernel
theorem dX12_pays_145 : decode cX12_pays 145 = .ok (.aload_n 0, 1) := by decide +kernel
theorem dX12_pays_146 : decode cX12_pays 146 = .ok (.iload_n 2, 1) := by decide +kernel
theorem dX12_pays_147 : decode cX12_pays 147 = .ok (.ifCond .ne 11, 3) := by decide +kernel
theorem dX12_pays_150 : decode cX12_pays 150 = .ok (.iload 4, 2) := by decide +kernel
theorem dX12_pays_152 : decode cX12_pays 152 = .ok (.bipush 12, 2) := by decide +kernel
theorem dX12_pays_154 : decode cX12_pays 154 = .ok (.irem, 1) := by decide +kernel
theorem dX12_pays_155 : decode cX12_pays 155 = .ok (.goto 8, 3) := by decide +kernel
theorem dX12_pays_158 : decode cX12_pays 158 = .ok (.iload 4, 2) := by decide +kernel
theorem dX12_pays_160 : decode cX12_pays 160 = .ok (.bipush 12, 2) := by decide +kernel
theorem dX12_pays_162 : decode cX12_pays 162 = .ok (.idiv, 1) := by decide +kernel
theorem dX12_pays_163 : decode cX12_pays 163 = .ok (.invokevirtual 239, 3) := by decide +kernel
theorem dX12_pays_166 : decode cX12_pays 166 = .ok (.iload_n 1, 1) := by decide +kernel
theorem dX12_pays_167 : decode cX12_pays 167 = .ok (.if_icmp .ne 27, 3) := by decide +kernel
theorem dX12_pays_170 : decode cX12_pays 170 = .ok (.iload_n 3, 1) := by decide +kernel
theorem dX12_pays_171 : decode cX12_pays 171 = .ok (.aload_n 0, 1) := by decide +kernel
theorem dX12_pays_172 : decode cX12_pays 172 = .ok (.iload 4, 2) := by decide +kernel
theorem dX12_pays_174 : decode cX12_pays 174 = .ok (.bipush 12, 2) := by decide +kernel
theorem dX12_pays_176 : decode cX12_pays 176 = .ok (.idiv, 1) := by decide +kernel
theorem dX12_pays_177 : decode cX12_pays 177 = .ok (.iload 4, 2) := by decide +kernel
theorem dX12_pays_179 : decode cX12_pays 179 = .ok (.bipush 12, 2) := by decide +kernel
theorem dX12_pays_181 : decode cX12_pays 181 = .ok (.irem, 1) := by decide +kernel
theorem dX12_pays_182 : decode cX12_pays 182 = .ok (.aload_n 0, 1) := by decide +kernel
theorem dX12_pays_183 : decode cX12_pays 183 = .ok (.getfield 54, 3) := by decide +kernel
theorem dX12_pays_186 : decode cX12_pays 186 = .ok (.iload 4, 2) := by decide +kernel
theorem dX12_pays_188 : decode cX12_pays 188 = .ok (.iaload, 1) := by decide +kernel
theorem dX12_pays_189 : decode cX12_pays 189 = .ok (.invokevirtual 321, 3) := by decide +kernel
theorem dX12_pays_192 : decode cX12_pays 192 = .ok (.iadd, 1) := by decide +kernel
theorem dX12_pays_193 : decode cX12_pays 193 = .ok (.istore_n 3, 1) := by decide +kernel
theorem dX12_pays_194 : decode cX12_pays 194 = .ok (.iinc 4 1, 3) := by decide +kernel
theorem dX12_pays_197 : decode cX12_pays 197 = .ok (.goto (-70), 3) := by decide +kernel
theorem dX12_pays_200 : decode cX12_pays 200 = .ok (.iload_n 3, 1) := by decide +kernel
theorem dX12_pays_201 : decode cX12_pays 201 = .ok (.ireturn, 1) := by decide +kernel
theorem dX12_laysBalances_0 : decode cX12_laysBalances 0 = .ok (.aload_n 0, 1) := by decide +kernel
theorem dX12_laysBalances_1 : decode cX12_laysBalances 1 = .ok (.invokevirtual 324, 3) := by decide +kernel
theorem dX12_laysBalances_4 : decode cX12_laysBalances 4 = .ok (.pop, 1) := by decide +kernel
theorem dX12_laysBalances_5 : decode cX12_laysBalances 5 = .ok (.iconst 0, 1) := by decide +kernel
theorem dX12_laysBalances_6 : decode cX12_laysBalances 6 = .ok (.istore_n 1, 1) := by decide +kernel
theorem dX12_laysBalances_7 : decode cX12_laysBalances 7 = .ok (.iload_n 1, 1) := by decide +kernel
theorem dX12_laysBalances_8 : decode cX12_laysBalances 8 = .ok (.bipush 64, 2) := by decide +kernel
theorem dX12_laysBalances_10 : decode cX12_laysBalances 10 = .ok (.if_icmp .ge 16, 3) := by decide +kernel
theorem dX12_laysBalances_13 : decode cX12_laysBalances 13 = .ok (.aload_n 0, 1) := by decide +kernel
theorem dX12_laysBalances_14 : decode cX12_laysBalances 14 = .ok (.getfield 69, 3) := by decide +kernel
theorem dX12_laysBalances_17 : decode cX12_laysBalances 17 = .ok (.iload_n 1, 1) := by decide +kernel
theorem dX12_laysBalances_18 : decode cX12_laysBalances 18 = .ok (.iconst 0, 1) := by decide +kernel
theorem dX12_laysBalances_19 : decode cX12_laysBalances 19 = .ok (.iastore, 1) := by decide +kernel
theorem dX12_laysBalances_20 : decode cX12_laysBalances 20 = .ok (.iinc 1 1, 3) := by decide +kernel
theorem dX12_laysBalances_23 : decode cX12_laysBalances 23 = .ok (.goto (-16), 3) := by decide +kernel
theorem dX12_laysBalances_26 : decode cX12_laysBalances 26 = .ok (.iconst 0, 1) := by decide +kernel
theorem dX12_laysBalances_27 : decode cX12_laysBalances 27 = .ok (.istore_n 1, 1) := by decide +kernel
theorem dX12_laysBalances_28 : decode cX12_laysBalances 28 = .ok (.iload_n 1, 1) := by decide +kernel
theorem dX12_laysBalances_29 : decode cX12_laysBalances 29 = .ok (.sipush 144, 3) := by decide +kernel
theorem dX12_laysBalances_32 : decode cX12_laysBalances 32 = .ok (.if_icmp .ge 64, 3) := by decide +kernel
theorem dX12_laysBalances_35 : decode cX12_laysBalances 35 = .ok (.aload_n 0, 1) := by decide +kernel
theorem dX12_laysBalances_36 : decode cX12_laysBalances 36 = .ok (.getfield 54, 3) := by decide +kernel
theorem dX12_laysBalances_39 : decode cX12_laysBalances 39 = .ok (.iload_n 1, 1) := by decide +kernel
theorem dX12_laysBalances_40 : decode cX12_laysBalances 40 = .ok (.iaload, 1) := by decide +kernel
theorem dX12_laysBalances_41 : decode cX12_laysBalances 41 = .ok (.ifCond .le 49, 3) := by decide +kernel
theorem dX12_laysBalances_44 : decode cX12_laysBalances 44 = .ok (.aload_n 0, 1) := by decide +kernel
theorem dX12_laysBalances_45 : decode cX12_laysBalances 45 = .ok (.getfield 69, 3) := by decide +kernel
theorem dX12_laysBalances_48 : decode cX12_laysBalances 48 = .ok (.bipush 8, 2) := by decide +kernel
theorem dX12_laysBalances_50 : decode cX12_laysBalances 50 = .ok (.aload_n 0, 1) := by decide +kernel
theorem dX12_laysBalances_51 : decode cX12_laysBalances 51 = .ok (.iload_n 1, 1) := by decide +kernel
theorem dX12_laysBalances_52 : decode cX12_laysBalances 52 = .ok (.bipush 12, 2) := by decide +kernel
theorem dX12_laysBalances_54 : decode cX12_laysBalances 54 = .ok (.irem, 1) := by decide +kernel
theorem dX12_laysBalances_55 : decode cX12_laysBalances 55 = .ok (.invokevirtual 239, 3) := by decide +kernel
theorem dX12_laysBalances_58 : decode cX12_laysBalances 58 = .ok (.imul, 1) := by decide +kernel
theorem dX12_laysBalances_59 : decode cX12_laysBalances 59 = .ok (.aload_n 0, 1) := by decide +kernel
theorem dX12_laysBalances_60 : decode cX12_laysBalances 60 = .ok (.iload_n 1, 1) := by decide +kernel
theorem dX12_laysBalances_61 : decode cX12_laysBalances 61 = .ok (.bipush 12, 2) := by decide +kernel
theorem dX12_laysBalances_63 : decode cX12_laysBalances 63 = .ok (.idiv, 1) := by decide +kernel
theorem dX12_laysBalances_64 : decode cX12_laysBalances 64 = .ok (.invokevirtual 239, 3) := by decide +kernel
theorem dX12_laysBalances_67 : decode cX12_laysBalances 67 = .ok (.iadd, 1) := by decide +kernel
theorem dX12_laysBalances_68 : decode cX12_laysBalances 68 = .ok (.dup2, 1) := by decide +kernel
theorem dX12_laysBalances_69 : decode cX12_laysBalances 69 = .ok (.iaload, 1) := by decide +kernel
theorem dX12_laysBalances_70 : decode cX12_laysBalances 70 = .ok (.aload_n 0, 1) := by decide +kernel
theorem dX12_laysBalances_71 : decode cX12_laysBalances 71 = .ok (.iload_n 1, 1) := by decide +kernel
theorem dX12_laysBalances_72 : decode cX12_laysBalances 72 = .ok (.bipush 12, 2) := by decide +kernel
theorem dX12_laysBalances_74 : decode cX12_laysBalances 74 = .ok (.idiv, 1) := by decide +kernel
theorem dX12_laysBalances_75 : decode cX12_laysBalances 75 = .ok (.iload_n 1, 1) := by decide +kernel
theorem dX12_laysBalances_76 : decode cX12_laysBalances 76 = .ok (.bipush 12, 2) := by decide +kernel
theorem dX12_laysBalances_78 : decode cX12_laysBalances 78 = .ok (.irem, 1) := by decide +kernel
theorem dX12_laysBalances_79 : decode cX12_laysBalances 79 = .ok (.aload_n 0, 1) := by decide +kernel
theorem dX12_laysBalances_80 : decode cX12_laysBalances 80 = .ok (.getfield 54, 3) := by decide +kernel
theorem dX12_laysBalances_83 : decode cX12_laysBalances 83 = .ok (.iload_n 1, 1) := by decide +kernel
theorem dX12_laysBalances_84 : decode cX12_laysBalances 84 = .ok (.iaload, 1) := by decide +kernel
theorem dX12_laysBalances_85 : decode cX12_laysBalances 85 = .ok (.invokevirtual 321, 3) := by decide +kernel
theorem dX12_laysBalances_88 : decode cX12_laysBalances 88 = .ok (.iadd, 1) := by decide +kernel
theorem dX12_laysBalances_89 : decode cX12_laysBalances 89 = .ok (.iastore, 1) := by decide +kernel
theorem dX12_laysBalances_90 : decode cX12_laysBalances 90 = .ok (.iinc 1 1, 3) := by decide +kernel
theorem dX12_laysBalances_93 : decode cX12_laysBalances 93 = .ok (.goto (-65), 3) := by decide +kernel
theorem dX12_laysBalances_96 : decode cX12_laysBalances 96 = .ok (.iconst 0, 1) := by decide +kernel
theorem dX12_laysBalances_97 : decode cX12_laysBalances 97 = .ok (.istore_n 1, 1) := by decide +kernel
theorem dX12_laysBalances_98 : decode cX12_laysBalances 98 = .ok (.iload_n 1, 1) := by decide +kernel
theorem dX12_laysBalances_99 : decode cX12_laysBalances 99 = .ok (.aload_n 0, 1) := by decide +kernel
theorem dX12_laysBalances_100 : decode cX12_laysBalances 100 = .ok (.iconst 0, 1) := by decide +kernel
theorem dX12_laysBalances_101 : decode cX12_laysBalances 101 = .ok (.invokevirtual 209, 3) := by decide +kernel
theorem dX12_laysBalances_104 : decode cX12_laysBalances 104 = .ok (.if_icmp .ge 70, 3) := by decide +kernel
theorem dX12_laysBalances_107 : decode cX12_laysBalances 107 = .ok (.iconst 1, 1) := by decide +kernel
theorem dX12_laysBalances_108 : decode cX12_laysBalances 108 = .ok (.iconst 3, 1) := by decide +kernel
theorem dX12_laysBalances_109 : decode cX12_laysBalances 109 = .ok (.iload_n 1, 1) := by decide +kernel
theorem dX12_laysBalances_110 : decode cX12_laysBalances 110 = .ok (.imul, 1) := by decide +kernel
theorem dX12_laysBalances_111 : decode cX12_laysBalances 111 = .ok (.iadd, 1) := by decide +kernel
theorem dX12_laysBalances_112 : decode cX12_laysBalances 112 = .ok (.istore_n 2, 1) := by decide +kernel
theorem dX12_laysBalances_113 : decode cX12_laysBalances 113 = .ok (.aload_n 0, 1) := by decide +kernel
theorem dX12_laysBalances_114 : decode cX12_laysBalances 114 = .ok (.getfield 69, 3) := by decide +kernel
theorem dX12_laysBalances_117 : decode cX12_laysBalances 117 = .ok (.bipush 8, 2) := by decide +kernel
theorem dX12_laysBalances_119 : decode cX12_laysBalances 119 = .ok (.aload_n 0, 1) := by decide +kernel
theorem dX12_laysBalances_120 : decode cX12_laysBalances 120 = .ok (.aload_n 0, 1) := by decide +kernel
theorem dX12_laysBalances_121 : decode cX12_laysBalances 121 = .ok (.iload_n 2, 1) := by decide +kernel
theorem dX12_laysBalances_122 : decode cX12_laysBalances 122 = .ok (.iconst 1, 1) := by decide +kernel
theorem dX12_laysBalances_123 : decode cX12_laysBalances 123 = .ok (.iadd, 1) := by decide +kernel
theorem dX12_laysBalances_124 : decode cX12_laysBalances 124 = .ok (.invokevirtual 209, 3) := by decide +kernel
theorem dX12_laysBalances_127 : decode cX12_laysBalances 127 = .ok (.invokevirtual 239, 3) := by decide +kernel
theorem dX12_laysBalances_130 : decode cX12_laysBalances 130 = .ok (.imul, 1) := by decide +kernel
theorem dX12_laysBalances_131 : decode cX12_laysBalances 131 = .ok (.aload_n 0, 1) := by decide +kernel
theorem dX12_laysBalances_132 : decode cX12_laysBalances 132 = .ok (.aload_n 0, 1) := by decide +kernel
theorem dX12_laysBalances_133 : decode cX12_laysBalances 133 = .ok (.iload_n 2, 1) := by decide +kernel
theorem dX12_laysBalances_134 : decode cX12_laysBalances 134 = .ok (.invokevirtual 209, 3) := by decide +kernel
theorem dX12_laysBalances_137 : decode cX12_laysBalances 137 = .ok (.invokevirtual 239, 3) := by decide +kernel
theorem dX12_laysBalances_140 : decode cX12_laysBalances 140 = .ok (.iadd, 1) := by decide +kernel
theorem dX12_laysBalances_141 : decode cX12_laysBalances 141 = .ok (.dup2, 1) := by decide +kernel
theorem dX12_laysBalances_142 : decode cX12_laysBalances 142 = .ok (.iaload, 1) := by decide +kernel
theorem dX12_laysBalances_143 : decode cX12_laysBalances 143 = .ok (.aload_n 0, 1) := by decide +kernel
theorem dX12_laysBalances_144 : decode cX12_laysBalances 144 = .ok (.aload_n 0, 1) := by decide +kernel
theorem dX12_laysBalances_145 : decode cX12_laysBalances 145 = .ok (.iload_n 2, 1) := by decide +kernel
theorem dX12_laysBalances_146 : decode cX12_laysBalances 146 = .ok (.invokevirtual 209, 3) := by decide +kernel
theorem dX12_laysBalances_149 : decode cX12_laysBalances 149 = .ok (.aload_n 0, 1) := by decide +kernel
theorem dX12_laysBalances_150 : decode cX12_laysBalances 150 = .ok (.iload_n 2, 1) := by decide +kernel
theorem dX12_laysBalances_151 : decode cX12_laysBalances 151 = .ok (.iconst 1, 1) := by decide +kernel
theorem dX12_laysBalances_152 : decode cX12_laysBalances 152 = .ok (.iadd, 1) := by decide +kernel
theorem dX12_laysBalances_153 : decode cX12_laysBalances 153 = .ok (.invokevirtual 209, 3) := by decide +kernel
theorem dX12_laysBalances_156 : decode cX12_laysBalances 156 = .ok (.aload_n 0, 1) := by decide +kernel
theorem dX12_laysBalances_157 : decode cX12_laysBalances 157 = .ok (.iload_n 2, 1) := by decide +kernel
theorem dX12_laysBalances_158 : decode cX12_laysBalances 158 = .ok (.iconst 2, 1) := by decide +kernel
theorem dX12_laysBalances_159 : decode cX12_laysBalances 159 = .ok (.iadd, 1) := by decide +kernel
theorem dX12_laysBalances_160 : decode cX12_laysBalances 160 = .ok (.invokevirtual 209, 3) := by decide +kernel
theorem dX12_laysBalances_163 : decode cX12_laysBalances 163 = .ok (.invokevirtual 321, 3) := by decide +kernel
theorem dX12_laysBalances_166 : decode cX12_laysBalances 166 = .ok (.iadd, 1) := by decide +kernel
theorem dX12_laysBalances_167 : decode cX12_laysBalances 167 = .ok (.iastore, 1) := by decide +kernel
theorem dX12_laysBalances_168 : decode cX12_laysBalances 168 = .ok (.iinc 1 1, 3) := by decide +kernel
theorem dX12_laysBalances_171 : decode cX12_laysBalances 171 = .ok (.goto (-73), 3) := by decide +kernel
theorem dX12_laysBalances_174 : decode cX12_laysBalances 174 = .ok (.iconst 0, 1) := by decide +kernel
theorem dX12_laysBalances_175 : decode cX12_laysBalances 175 = .ok (.istore_n 1, 1) := by decide +kernel
theorem dX12_laysBalances_176 : decode cX12_laysBalances 176 = .ok (.iload_n 1, 1) := by decide +kernel
theorem dX12_laysBalances_177 : decode cX12_laysBalances 177 = .ok (.bipush 8, 2) := by decide +kernel
theorem dX12_laysBalances_179 : decode cX12_laysBalances 179 = .ok (.if_icmp .ge 62, 3) := by decide +kernel
theorem dX12_laysBalances_182 : decode cX12_laysBalances 182 = .ok (.aload_n 0, 1) := by decide +kernel
theorem dX12_laysBalances_183 : decode cX12_laysBalances 183 = .ok (.getfield 72, 3) := by decide +kernel
theorem dX12_laysBalances_186 : decode cX12_laysBalances 186 = .ok (.iload_n 1, 1) := by decide +kernel
theorem dX12_laysBalances_187 : decode cX12_laysBalances 187 = .ok (.iconst 0, 1) := by decide +kernel
theorem dX12_laysBalances_188 : decode cX12_laysBalances 188 = .ok (.iastore, 1) := by decide +kernel
theorem dX12_laysBalances_189 : decode cX12_laysBalances 189 = .ok (.iconst 0, 1) := by decide +kernel
theorem dX12_laysBalances_190 : decode cX12_laysBalances 190 = .ok (.istore_n 2, 1) := by decide +kernel
theorem dX12_laysBalances_191 : decode cX12_laysBalances 191 = .ok (.iload_n 2, 1) := by decide +kernel
theorem dX12_laysBalances_192 : decode cX12_laysBalances 192 = .ok (.bipush 8, 2) := by decide +kernel
theorem dX12_laysBalances_194 : decode cX12_laysBalances 194 = .ok (.if_icmp .ge 41, 3) := by decide +kernel
theorem dX12_laysBalances_197 : decode cX12_laysBalances 197 = .ok (.aload_n 0, 1) := by decide +kernel
theorem dX12_laysBalances_198 : decode cX12_laysBalances 198 = .ok (.getfield 72, 3) := by decide +kernel
theorem dX12_laysBalances_201 : decode cX12_laysBalances 201 = .ok (.iload_n 1, 1) := by decide +kernel
theorem dX12_laysBalances_202 : decode cX12_laysBalances 202 = .ok (.dup2, 1) := by decide +kernel
theorem dX12_laysBalances_203 : decode cX12_laysBalances 203 = .ok (.iaload, 1) := by decide +kernel
theorem dX12_laysBalances_204 : decode cX12_laysBalances 204 = .ok (.aload_n 0, 1) := by decide +kernel
theorem dX12_laysBalances_205 : decode cX12_laysBalances 205 = .ok (.getfield 69, 3) := by decide +kernel
theorem dX12_laysBalances_208 : decode cX12_laysBalances 208 = .ok (.bipush 8, 2) := by decide +kernel
theorem dX12_laysBalances_210 : decode cX12_laysBalances 210 = .ok (.iload_n 2, 1) := by decide +kernel
theorem dX12_laysBalances_211 : decode cX12_laysBalances 211 = .ok (.imul, 1) := by decide +kernel
theorem dX12_laysBalances_212 : decode cX12_laysBalances 212 = .ok (.iload_n 1, 1) := by decide +kernel
theorem dX12_laysBalances_213 : decode cX12_laysBalances 213 = .ok (.iadd, 1) := by decide +kernel
theorem dX12_laysBalances_214 : decode cX12_laysBalances 214 = .ok (.iaload, 1) := by decide +kernel
theorem dX12_laysBalances_215 : decode cX12_laysBalances 215 = .ok (.aload_n 0, 1) := by decide +kernel
theorem dX12_laysBalances_216 : decode cX12_laysBalances 216 = .ok (.getfield 69, 3) := by decide +kernel
theorem dX12_laysBalances_219 : decode cX12_laysBalances 219 = .ok (.bipush 8, 2) := by decide +kernel
theorem dX12_laysBalances_221 : decode cX12_laysBalances 221 = .ok (.iload_n 1, 1) := by decide +kernel
theorem dX12_laysBalances_222 : decode cX12_laysBalances 222 = .ok (.imul, 1) := by decide +kernel
theorem dX12_laysBalances_223 : decode cX12_laysBalances 223 = .ok (.iload_n 2, 1) := by decide +kernel
theorem dX12_laysBalances_224 : decode cX12_laysBalances 224 = .ok (.iadd, 1) := by decide +kernel
theorem dX12_laysBalances_225 : decode cX12_laysBalances 225 = .ok (.iaload, 1) := by decide +kernel
theorem dX12_laysBalances_226 : decode cX12_laysBalances 226 = .ok (.isub, 1) := by decide +kernel
theorem dX12_laysBalances_227 : decode cX12_laysBalances 227 = .ok (.iadd, 1) := by decide +kernel
theorem dX12_laysBalances_228 : decode cX12_laysBalances 228 = .ok (.iastore, 1) := by decide +kernel
theorem dX12_laysBalances_229 : decode cX12_laysBalances 229 = .ok (.iinc 2 1, 3) := by decide +kernel
theorem dX12_laysBalances_232 : decode cX12_laysBalances 232 = .ok (.goto (-41), 3) := by decide +kernel
theorem dX12_laysBalances_235 : decode cX12_laysBalances 235 = .ok (.iinc 1 1, 3) := by decide +kernel
theorem dX12_laysBalances_238 : decode cX12_laysBalances 238 = .ok (.goto (-62), 3) := by decide +kernel
theorem dX12_laysBalances_241 : decode cX12_laysBalances 241 = .ok (.return_, 1) := by decide +kernel
theorem dX12_balance_0 : decode cX12_balance 0 = .ok (.aload_n 0, 1) := by decide +kernel
theorem dX12_balance_1 : decode cX12_balance 1 = .ok (.iconst 0, 1) := by decide +kernel
theorem dX12_balance_2 : decode cX12_balance 2 = .ok (.putfield 81, 3) := by decide +kernel
theorem dX12_balance_5 : decode cX12_balance 5 = .ok (.aload_n 0, 1) := by decide +kernel
theorem dX12_balance_6 : decode cX12_balance 6 = .ok (.iload_n 1, 1) := by decide +kernel
theorem dX12_balance_7 : decode cX12_balance 7 = .ok (.invokevirtual 327, 3) := by decide +kernel
theorem dX12_balance_10 : decode cX12_balance 10 = .ok (.ifCond .ne 7, 3) := by decide +kernel
theorem dX12_balance_13 : decode cX12_balance 13 = .ok (.ldc_w 359, 3) := by decide +kernel
theorem dX12_balance_16 : decode cX12_balance 16 = .ok (.ireturn, 1) := by decide +kernel
theorem dX12_balance_17 : decode cX12_balance 17 = .ok (.aload_n 0, 1) := by decide +kernel
theorem dX12_balance_18 : decode cX12_balance 18 = .ok (.invokevirtual 360, 3) := by decide +kernel
theorem dX12_balance_21 : decode cX12_balance 21 = .ok (.aload_n 0, 1) := by decide +kernel
theorem dX12_balance_22 : decode cX12_balance 22 = .ok (.getfield 72, 3) := by decide +kernel
theorem dX12_balance_25 : decode cX12_balance 25 = .ok (.iload_n 1, 1) := by decide +kernel
theorem dX12_balance_26 : decode cX12_balance 26 = .ok (.iaload, 1) := by decide +kernel
theorem dX12_balance_27 : decode cX12_balance 27 = .ok (.ireturn, 1) := by decide +kernel
theorem dX12_owes_0 : decode cX12_owes 0 = .ok (.aload_n 0, 1) := by decide +kernel
theorem dX12_owes_1 : decode cX12_owes 1 = .ok (.iconst 0, 1) := by decide +kernel
theorem dX12_owes_2 : decode cX12_owes 2 = .ok (.putfield 81, 3) := by decide +kernel
theorem dX12_owes_5 : decode cX12_owes 5 = .ok (.aload_n 0, 1) := by decide +kernel
theorem dX12_owes_6 : decode cX12_owes 6 = .ok (.iload_n 1, 1) := by decide +kernel
theorem dX12_owes_7 : decode cX12_owes 7 = .ok (.iload_n 2, 1) := by decide +kernel
theorem dX12_owes_8 : decode cX12_owes 8 = .ok (.invokevirtual 341, 3) := by decide +kernel
theorem dX12_owes_11 : decode cX12_owes 11 = .ok (.ifCond .eq 8, 3) := by decide +kernel
theorem dX12_owes_14 : decode cX12_owes 14 = .ok (.iload_n 1, 1) := by decide +kernel
theorem dX12_owes_15 : decode cX12_owes 15 = .ok (.iload_n 2, 1) := by decide +kernel
theorem dX12_owes_16 : decode cX12_owes 16 = .ok (.if_icmp .ne 7, 3) := by decide +kernel
theorem dX12_owes_19 : decode cX12_owes 19 = .ok (.ldc_w 359, 3) := by decide +kernel
theorem dX12_owes_22 : decode cX12_owes 22 = .ok (.ireturn, 1) := by decide +kernel
theorem dX12_owes_23 : decode cX12_owes 23 = .ok (.aload_n 0, 1) := by decide +kernel
theorem dX12_owes_24 : decode cX12_owes 24 = .ok (.invokevirtual 360, 3) := by decide +kernel
theorem dX12_owes_27 : decode cX12_owes 27 = .ok (.aload_n 0, 1) := by decide +kernel
theorem dX12_owes_28 : decode cX12_owes 28 = .ok (.getfield 69, 3) := by decide +kernel
theorem dX12_owes_31 : decode cX12_owes 31 = .ok (.bipush 8, 2) := by decide +kernel
theorem dX12_owes_33 : decode cX12_owes 33 = .ok (.iload_n 1, 1) := by decide +kernel
theorem dX12_owes_34 : decode cX12_owes 34 = .ok (.imul, 1) := by decide +kernel
theorem dX12_owes_35 : decode cX12_owes 35 = .ok (.iload_n 2, 1) := by decide +kernel
theorem dX12_owes_36 : decode cX12_owes 36 = .ok (.iadd, 1) := by decide +kernel
theorem dX12_owes_37 : decode cX12_owes 37 = .ok (.iaload, 1) := by decide +kernel
theorem dX12_owes_38 : decode cX12_owes 38 = .ok (.aload_n 0, 1) := by decide +kernel
theorem dX12_owes_39 : decode cX12_owes 39 = .ok (.getfield 69, 3) := by decide +kernel
theorem dX12_owes_42 : decode cX12_owes 42 = .ok (.bipush 8, 2) := by decide +kernel
theorem dX12_owes_44 : decode cX12_owes 44 = .ok (.iload_n 2, 1) := by decide +kernel
theorem dX12_owes_45 : decode cX12_owes 45 = .ok (.imul, 1) := by decide +kernel
theorem dX12_owes_46 : decode cX12_owes 46 = .ok (.iload_n 1, 1) := by decide +kernel
theorem dX12_owes_47 : decode cX12_owes 47 = .ok (.iadd, 1) := by decide +kernel
theorem dX12_owes_48 : decode cX12_owes 48 = .ok (.iaload, 1) := by decide +kernel
theorem dX12_owes_49 : decode cX12_owes 49 = .ok (.isub, 1) := by decide +kernel
theorem dX12_owes_50 : decode cX12_owes 50 = .ok (.ireturn, 1) := by decide +kernel
theorem dX12_settlesOne_0 : decode cX12_settlesOne 0 = .ok (.aload_n 0, 1) := by decide +kernel
theorem dX12_settlesOne_1 : decode cX12_settlesOne 1 = .ok (.iconst 0, 1) := by decide +kernel
theorem dX12_settlesOne_2 : decode cX12_settlesOne 2 = .ok (.putfield 363, 3) := by decide +kernel
theorem dX12_settlesOne_5 : decode cX12_settlesOne 5 = .ok (.aload_n 0, 1) := by decide +kernel
theorem dX12_settlesOne_6 : decode cX12_settlesOne 6 = .ok (.iconst 0, 1) := by decide +kernel
theorem dX12_settlesOne_7 : decode cX12_settlesOne 7 = .ok (.putfield 366, 3) := by decide +kernel
theorem dX12_settlesOne_10 : decode cX12_settlesOne 10 = .ok (.iconst 1, 1) := by decide +kernel
theorem dX12_settlesOne_11 : decode cX12_settlesOne 11 = .ok (.istore_n 1, 1) := by decide +kernel
theorem dX12_settlesOne_12 : decode cX12_settlesOne 12 = .ok (.iload_n 1, 1) := by decide +kernel
theorem dX12_settlesOne_13 : decode cX12_settlesOne 13 = .ok (.aload_n 0, 1) := by decide +kernel
theorem dX12_settlesOne_14 : decode cX12_settlesOne 14 = .ok (.getfield 132, 3) := by decide +kernel
theorem dX12_settlesOne_17 : decode cX12_settlesOne 17 = .ok (.if_icmp .ge 55, 3) := by decide +kernel
theorem dX12_settlesOne_20 : decode cX12_settlesOne 20 = .ok (.aload_n 0, 1) := by decide +kernel
theorem dX12_settlesOne_21 : decode cX12_settlesOne 21 = .ok (.getfield 72, 3) := by decide +kernel
theorem dX12_settlesOne_24 : decode cX12_settlesOne 24 = .ok (.iload_n 1, 1) := by decide +kernel
theorem dX12_settlesOne_25 : decode cX12_settlesOne 25 = .ok (.iaload, 1) := by decide +kernel
theorem dX12_settlesOne_26 : decode cX12_settlesOne 26 = .ok (.aload_n 0, 1) := by decide +kernel
theorem dX12_settlesOne_27 : decode cX12_settlesOne 27 = .ok (.getfield 72, 3) := by decide +kernel
theorem dX12_settlesOne_30 : decode cX12_settlesOne 30 = .ok (.aload_n 0, 1) := by decide +kernel
theorem dX12_settlesOne_31 : decode cX12_settlesOne 31 = .ok (.getfield 363, 3) := by decide +kernel
theorem dX12_settlesOne_34 : decode cX12_settlesOne 34 = .ok (.iaload, 1) := by decide +kernel
theorem dX12_settlesOne_35 : decode cX12_settlesOne 35 = .ok (.if_icmp .ge 8, 3) := by decide +kernel
theorem dX12_settlesOne_38 : decode cX12_settlesOne 38 = .ok (.aload_n 0, 1) := by decide +kernel
theorem dX12_settlesOne_39 : decode cX12_settlesOne 39 = .ok (.iload_n 1, 1) := by decide +kernel
theorem dX12_settlesOne_40 : decode cX12_settlesOne 40 = .ok (.putfield 363, 3) := by decide +kernel
theorem dX12_settlesOne_43 : decode cX12_settlesOne 43 = .ok (.aload_n 0, 1) := by decide +kernel
theorem dX12_settlesOne_44 : decode cX12_settlesOne 44 = .ok (.getfield 72, 3) := by decide +kernel
theorem dX12_settlesOne_47 : decode cX12_settlesOne 47 = .ok (.iload_n 1, 1) := by decide +kernel
theorem dX12_settlesOne_48 : decode cX12_settlesOne 48 = .ok (.iaload, 1) := by decide +kernel
theorem dX12_settlesOne_49 : decode cX12_settlesOne 49 = .ok (.aload_n 0, 1) := by decide +kernel
theorem dX12_settlesOne_50 : decode cX12_settlesOne 50 = .ok (.getfield 72, 3) := by decide +kernel
theorem dX12_settlesOne_53 : decode cX12_settlesOne 53 = .ok (.aload_n 0, 1) := by decide +kernel
theorem dX12_settlesOne_54 : decode cX12_settlesOne 54 = .ok (.getfield 366, 3) := by decide +kernel
theorem dX12_settlesOne_57 : decode cX12_settlesOne 57 = .ok (.iaload, 1) := by decide +kernel
theorem dX12_settlesOne_58 : decode cX12_settlesOne 58 = .ok (.if_icmp .le 8, 3) := by decide +kernel
theorem dX12_settlesOne_61 : decode cX12_settlesOne 61 = .ok (.aload_n 0, 1) := by decide +kernel
theorem dX12_settlesOne_62 : decode cX12_settlesOne 62 = .ok (.iload_n 1, 1) := by decide +kernel
theorem dX12_settlesOne_63 : decode cX12_settlesOne 63 = .ok (.putfield 366, 3) := by decide +kernel
theorem dX12_settlesOne_66 : decode cX12_settlesOne 66 = .ok (.iinc 1 1, 3) := by decide +kernel
theorem dX12_settlesOne_69 : decode cX12_settlesOne 69 = .ok (.goto (-57), 3) := by decide +kernel
theorem dX12_settlesOne_72 : decode cX12_settlesOne 72 = .ok (.aload_n 0, 1) := by decide +kernel
theorem dX12_settlesOne_73 : decode cX12_settlesOne 73 = .ok (.getfield 132, 3) := by decide +kernel
theorem dX12_settlesOne_76 : decode cX12_settlesOne 76 = .ok (.ifCond .eq 15, 3) := by decide +kernel
theorem dX12_settlesOne_79 : decode cX12_settlesOne 79 = .ok (.aload_n 0, 1) := by decide +kernel
theorem dX12_settlesOne_80 : decode cX12_settlesOne 80 = .ok (.getfield 72, 3) := by decide +kernel
theorem dX12_settlesOne_83 : decode cX12_settlesOne 83 = .ok (.aload_n 0, 1) := by decide +kernel
theorem dX12_settlesOne_84 : decode cX12_settlesOne 84 = .ok (.getfield 363, 3) := by decide +kernel
theorem dX12_settlesOne_87 : decode cX12_settlesOne 87 = .ok (.iaload, 1) := by decide +kernel
theorem dX12_settlesOne_88 : decode cX12_settlesOne 88 = .ok (.ifCond .lt 5, 3) := by decide +kernel
theorem dX12_settlesOne_91 : decode cX12_settlesOne 91 = .ok (.iconst 0, 1) := by decide +kernel
theorem dX12_settlesOne_92 : decode cX12_settlesOne 92 = .ok (.ireturn, 1) := by decide +kernel
theorem dX12_settlesOne_93 : decode cX12_settlesOne 93 = .ok (.aload_n 0, 1) := by decide +kernel
theorem dX12_settlesOne_94 : decode cX12_settlesOne 94 = .ok (.aload_n 0, 1) := by decide +kernel
theorem dX12_settlesOne_95 : decode cX12_settlesOne 95 = .ok (.getfield 72, 3) := by decide +kernel
theorem dX12_settlesOne_98 : decode cX12_settlesOne 98 = .ok (.aload_n 0, 1) := by decide +kernel
theorem dX12_settlesOne_99 : decode cX12_settlesOne 99 = .ok (.getfield 363, 3) := by decide +kernel
theorem dX12_settlesOne_102 : decode cX12_settlesOne 102 = .ok (.iaload, 1) := by decide +kernel
theorem dX12_settlesOne_103 : decode cX12_settlesOne 103 = .ok (.ineg, 1) := by decide +kernel
theorem dX12_settlesOne_104 : decode cX12_settlesOne 104 = .ok (.aload_n 0, 1) := by decide +kernel
theorem dX12_settlesOne_105 : decode cX12_settlesOne 105 = .ok (.getfield 72, 3) := by decide +kernel
theorem dX12_settlesOne_108 : decode cX12_settlesOne 108 = .ok (.aload_n 0, 1) := by decide +kernel
theorem dX12_settlesOne_109 : decode cX12_settlesOne 109 = .ok (.getfield 366, 3) := by decide +kernel
theorem dX12_settlesOne_112 : decode cX12_settlesOne 112 = .ok (.iaload, 1) := by decide +kernel
theorem dX12_settlesOne_113 : decode cX12_settlesOne 113 = .ok (.if_icmp .ge 16, 3) := by decide +kernel
theorem dX12_settlesOne_116 : decode cX12_settlesOne 116 = .ok (.aload_n 0, 1) := by decide +kernel
theorem dX12_settlesOne_117 : decode cX12_settlesOne 117 = .ok (.getfield 72, 3) := by decide +kernel
theorem dX12_settlesOne_120 : decode cX12_settlesOne 120 = .ok (.aload_n 0, 1) := by decide +kernel
theorem dX12_settlesOne_121 : decode cX12_settlesOne 121 = .ok (.getfield 363, 3) := by decide +kernel
theorem dX12_settlesOne_124 : decode cX12_settlesOne 124 = .ok (.iaload, 1) := by decide +kernel
theorem dX12_settlesOne_125 : decode cX12_settlesOne 125 = .ok (.ineg, 1) := by decide +kernel
theorem dX12_settlesOne_126 : decode cX12_settlesOne 126 = .ok (.goto 12, 3) := by decide +kernel
theorem dX12_settlesOne_129 : decode cX12_settlesOne 129 = .ok (.aload_n 0, 1) := by decide +kernel
theorem dX12_settlesOne_130 : decode cX12_settlesOne 130 = .ok (.getfield 72, 3) := by decide +kernel
theorem dX12_settlesOne_133 : decode cX12_settlesOne 133 = .ok (.aload_n 0, 1) := by decide +kernel
theorem dX12_settlesOne_134 : decode cX12_settlesOne 134 = .ok (.getfield 366, 3) := by decide +kernel
theorem dX12_settlesOne_137 : decode cX12_settlesOne 137 = .ok (.iaload, 1) := by decide +kernel
theorem dX12_settlesOne_138 : decode cX12_settlesOne 138 = .ok (.putfield 369, 3) := by decide +kernel
theorem dX12_settlesOne_141 : decode cX12_settlesOne 141 = .ok (.aload_n 0, 1) := by decide +kernel
theorem dX12_settlesOne_142 : decode cX12_settlesOne 142 = .ok (.getfield 72, 3) := by decide +kernel
theorem dX12_settlesOne_145 : decode cX12_settlesOne 145 = .ok (.aload_n 0, 1) := by decide +kernel
theorem dX12_settlesOne_146 : decode cX12_settlesOne 146 = .ok (.getfield 363, 3) := by decide +kernel
theorem dX12_settlesOne_149 : decode cX12_settlesOne 149 = .ok (.dup2, 1) := by decide +kernel
theorem dX12_settlesOne_150 : decode cX12_settlesOne 150 = .ok (.iaload, 1) := by decide +kernel
theorem dX12_settlesOne_151 : decode cX12_settlesOne 151 = .ok (.aload_n 0, 1) := by decide +kernel
theorem dX12_settlesOne_152 : decode cX12_settlesOne 152 = .ok (.getfield 369, 3) := by decide +kernel
theorem dX12_settlesOne_155 : decode cX12_settlesOne 155 = .ok (.iadd, 1) := by decide +kernel
theorem dX12_settlesOne_156 : decode cX12_settlesOne 156 = .ok (.iastore, 1) := by decide +kernel
theorem dX12_settlesOne_157 : decode cX12_settlesOne 157 = .ok (.aload_n 0, 1) := by decide +kernel
theorem dX12_settlesOne_158 : decode cX12_settlesOne 158 = .ok (.getfield 72, 3) := by decide +kernel
theorem dX12_settlesOne_161 : decode cX12_settlesOne 161 = .ok (.aload_n 0, 1) := by decide +kernel
theorem dX12_settlesOne_162 : decode cX12_settlesOne 162 = .ok (.getfield 366, 3) := by decide +kernel
theorem dX12_settlesOne_165 : decode cX12_settlesOne 165 = .ok (.dup2, 1) := by decide +kernel
theorem dX12_settlesOne_166 : decode cX12_settlesOne 166 = .ok (.iaload, 1) := by decide +kernel
theorem dX12_settlesOne_167 : decode cX12_settlesOne 167 = .ok (.aload_n 0, 1) := by decide +kernel
theorem dX12_settlesOne_168 : decode cX12_settlesOne 168 = .ok (.getfield 369, 3) := by decide +kernel
theorem dX12_settlesOne_171 : decode cX12_settlesOne 171 = .ok (.isub, 1) := by decide +kernel
theorem dX12_settlesOne_172 : decode cX12_settlesOne 172 = .ok (.iastore, 1) := by decide +kernel
theorem dX12_settlesOne_173 : decode cX12_settlesOne 173 = .ok (.iconst 1, 1) := by decide +kernel
theorem dX12_settlesOne_174 : decode cX12_settlesOne 174 = .ok (.ireturn, 1) := by decide +kernel
theorem dX12_settles_0 : decode cX12_settles 0 = .ok (.aload_n 0, 1) := by decide +kernel
theorem dX12_settles_1 : decode cX12_settles 1 = .ok (.iconst 0, 1) := by decide +kernel
theorem dX12_settles_2 : decode cX12_settles 2 = .ok (.putfield 81, 3) := by decide +kernel
theorem dX12_settles_5 : decode cX12_settles 5 = .ok (.aload_n 0, 1) := by decide +kernel
theorem dX12_settles_6 : decode cX12_settles 6 = .ok (.invokevirtual 360, 3) := by decide +kernel
theorem dX12_settles_9 : decode cX12_settles 9 = .ok (.iconst 0, 1) := by decide +kernel
theorem dX12_settles_10 : decode cX12_settles 10 = .ok (.istore_n 1, 1) := by decide +kernel
theorem dX12_settles_11 : decode cX12_settles 11 = .ok (.aload_n 0, 1) := by decide +kernel
theorem dX12_settles_12 : decode cX12_settles 12 = .ok (.invokevirtual 372, 3) := by decide +kernel
theorem dX12_settles_15 : decode cX12_settles 15 = .ok (.ifCond .eq 9, 3) := by decide +kernel
theorem dX12_settles_18 : decode cX12_settles 18 = .ok (.iinc 1 1, 3) := by decide +kernel
theorem dX12_settles_21 : decode cX12_settles 21 = .ok (.goto (-10), 3) := by decide +kernel
theorem dX12_settles_24 : decode cX12_settles 24 = .ok (.iload_n 1, 1) := by decide +kernel
theorem dX12_settles_25 : decode cX12_settles 25 = .ok (.ireturn, 1) := by decide +kernel
theorem dX12_settling_0 : decode cX12_settling 0 = .ok (.aload_n 0, 1) := by decide +kernel
theorem dX12_settling_1 : decode cX12_settling 1 = .ok (.iconst 0, 1) := by decide +kernel
theorem dX12_settling_2 : decode cX12_settling 2 = .ok (.putfield 81, 3) := by decide +kernel
theorem dX12_settling_5 : decode cX12_settling 5 = .ok (.iload_n 1, 1) := by decide +kernel
theorem dX12_settling_6 : decode cX12_settling 6 = .ok (.ifCond .lt 12, 3) := by decide +kernel
theorem dX12_settling_9 : decode cX12_settling 9 = .ok (.iload_n 2, 1) := by decide +kernel
theorem dX12_settling_10 : decode cX12_settling 10 = .ok (.iconst 0, 1) := by decide +kernel
theorem dX12_settling_11 : decode cX12_settling 11 = .ok (.iconst 2, 1) := by decide +kernel
theorem dX12_settling_12 : decode cX12_settling 12 = .ok (.invokestatic 165, 3) := by decide +kernel
theorem dX12_settling_15 : decode cX12_settling 15 = .ok (.ifCond .ne 5, 3) := by decide +kernel
theorem dX12_settling_18 : decode cX12_settling 18 = .ok (.iconst (-1), 1) := by decide +kernel
theorem dX12_settling_19 : decode cX12_settling 19 = .ok (.ireturn, 1) := by decide +kernel
theorem dX12_settling_20 : decode cX12_settling 20 = .ok (.aload_n 0, 1) := by decide +kernel
theorem dX12_settling_21 : decode cX12_settling 21 = .ok (.invokevirtual 360, 3) := by decide +kernel
theorem dX12_settling_24 : decode cX12_settling 24 = .ok (.iconst 0, 1) := by decide +kernel
theorem dX12_settling_25 : decode cX12_settling 25 = .ok (.istore_n 3, 1) := by decide +kernel
theorem dX12_settling_26 : decode cX12_settling 26 = .ok (.iload_n 3, 1) := by decide +kernel
theorem dX12_settling_27 : decode cX12_settling 27 = .ok (.iload_n 1, 1) := by decide +kernel
theorem dX12_settling_28 : decode cX12_settling 28 = .ok (.if_icmp .gt 19, 3) := by decide +kernel
theorem dX12_settling_31 : decode cX12_settling 31 = .ok (.aload_n 0, 1) := by decide +kernel
theorem dX12_settling_32 : decode cX12_settling 32 = .ok (.invokevirtual 372, 3) := by decide +kernel
theorem dX12_settling_35 : decode cX12_settling 35 = .ok (.ifCond .ne 6, 3) := by decide +kernel
theorem dX12_settling_38 : decode cX12_settling 38 = .ok (.bipush (-2), 2) := by decide +kernel
theorem dX12_settling_40 : decode cX12_settling 40 = .ok (.ireturn, 1) := by decide +kernel
theorem dX12_settling_41 : decode cX12_settling 41 = .ok (.iinc 3 1, 3) := by decide +kernel
theorem dX12_settling_44 : decode cX12_settling 44 = .ok (.goto (-18), 3) := by decide +kernel
theorem dX12_settling_47 : decode cX12_settling 47 = .ok (.iload_n 2, 1) := by decide +kernel
theorem dX12_settling_48 : decode cX12_settling 48 = .ok (.ifCond .ne 10, 3) := by decide +kernel
theorem dX12_settling_51 : decode cX12_settling 51 = .ok (.aload_n 0, 1) := by decide +kernel
theorem dX12_settling_52 : decode cX12_settling 52 = .ok (.getfield 363, 3) := by decide +kernel
theorem dX12_settling_55 : decode cX12_settling 55 = .ok (.goto 19, 3) := by decide +kernel
theorem dX12_settling_58 : decode cX12_settling 58 = .ok (.iload_n 2, 1) := by decide +kernel
theorem dX12_settling_59 : decode cX12_settling 59 = .ok (.iconst 1, 1) := by decide +kernel
theorem dX12_settling_60 : decode cX12_settling 60 = .ok (.if_icmp .ne 10, 3) := by decide +kernel
theorem dX12_settling_63 : decode cX12_settling 63 = .ok (.aload_n 0, 1) := by decide +kernel
theorem dX12_settling_64 : decode cX12_settling 64 = .ok (.getfield 366, 3) := by decide +kernel
theorem dX12_settling_67 : decode cX12_settling 67 = .ok (.goto 7, 3) := by decide +kernel
theorem dX12_settling_70 : decode cX12_settling 70 = .ok (.aload_n 0, 1) := by decide +kernel
theorem dX12_settling_71 : decode cX12_settling 71 = .ok (.getfield 369, 3) := by decide +kernel
theorem dX12_settling_74 : decode cX12_settling 74 = .ok (.ireturn, 1) := by decide +kernel
theorem dX12_tax_0 : decode cX12_tax 0 = .ok (.aload_n 0, 1) := by decide +kernel
theorem dX12_tax_1 : decode cX12_tax 1 = .ok (.iconst 0, 1) := by decide +kernel
theorem dX12_tax_2 : decode cX12_tax 2 = .ok (.putfield 81, 3) := by decide +kernel
theorem dX12_tax_5 : decode cX12_tax 5 = .ok (.aload_n 0, 1) := by decide +kernel
theorem dX12_tax_6 : decode cX12_tax 6 = .ok (.iload_n 1, 1) := by decide +kernel
theorem dX12_tax_7 : decode cX12_tax 7 = .ok (.invokevirtual 327, 3) := by decide +kernel
theorem dX12_tax_10 : decode cX12_tax 10 = .ok (.ifCond .ne 5, 3) := by decide +kernel
theorem dX12_tax_13 : decode cX12_tax 13 = .ok (.iconst (-1), 1) := by decide +kernel
theorem dX12_tax_14 : decode cX12_tax 14 = .ok (.ireturn, 1) := by decide +kernel
theorem dX12_tax_15 : decode cX12_tax 15 = .ok (.aload_n 0, 1) := by decide +kernel
theorem dX12_tax_16 : decode cX12_tax 16 = .ok (.invokevirtual 324, 3) := by decide +kernel
theorem dX12_tax_19 : decode cX12_tax 19 = .ok (.pop, 1) := by decide +kernel
theorem dX12_tax_20 : decode cX12_tax 20 = .ok (.iconst 0, 1) := by decide +kernel
theorem dX12_tax_21 : decode cX12_tax 21 = .ok (.istore_n 2, 1) := by decide +kernel
theorem dX12_tax_22 : decode cX12_tax 22 = .ok (.iconst 0, 1) := by decide +kernel
theorem dX12_tax_23 : decode cX12_tax 23 = .ok (.istore_n 3, 1) := by decide +kernel
theorem dX12_tax_24 : decode cX12_tax 24 = .ok (.iload_n 3, 1) := by decide +kernel
theorem dX12_tax_25 : decode cX12_tax 25 = .ok (.aload_n 0, 1) := by decide +kernel
theorem dX12_tax_26 : decode cX12_tax 26 = .ok (.getfield 135, 3) := by decide +kernel
theorem dX12_tax_29 : decode cX12_tax 29 = .ok (.if_icmp .ge 53, 3) := by decide +kernel
theorem dX12_tax_32 : decode cX12_tax 32 = .ok (.aload_n 0, 1) := by decide +kernel
theorem dX12_tax_33 : decode cX12_tax 33 = .ok (.iload_n 3, 1) := by decide +kernel
theorem dX12_tax_34 : decode cX12_tax 34 = .ok (.invokevirtual 239, 3) := by decide +kernel
theorem dX12_tax_37 : decode cX12_tax 37 = .ok (.iload_n 1, 1) := by decide +kernel
theorem dX12_tax_38 : decode cX12_tax 38 = .ok (.if_icmp .ne 38, 3) := by decide +kernel
theorem dX12_tax_41 : decode cX12_tax 41 = .ok (.aload_n 0, 1) := by decide +kernel
theorem dX12_tax_42 : decode cX12_tax 42 = .ok (.iload_n 3, 1) := by decide +kernel
theorem dX12_tax_43 : decode cX12_tax 43 = .ok (.invokevirtual 249, 3) := by decide +kernel
theorem dX12_tax_46 : decode cX12_tax 46 = .ok (.ifCond .le 30, 3) := by decide +kernel
theorem dX12_tax_49 : decode cX12_tax 49 = .ok (.iload_n 2, 1) := by decide +kernel
theorem dX12_tax_50 : decode cX12_tax 50 = .ok (.aload_n 0, 1) := by decide +kernel
theorem dX12_tax_51 : decode cX12_tax 51 = .ok (.getfield 48, 3) := by decide +kernel
theorem dX12_tax_54 : decode cX12_tax 54 = .ok (.iload_n 3, 1) := by decide +kernel
theorem dX12_tax_55 : decode cX12_tax 55 = .ok (.iaload, 1) := by decide +kernel
theorem dX12_tax_56 : decode cX12_tax 56 = .ok (.i2l, 1) := by decide +kernel
theorem dX12_tax_57 : decode cX12_tax 57 = .ok (.aload_n 0, 1) := by decide +kernel
theorem dX12_tax_58 : decode cX12_tax 58 = .ok (.getfield 20, 3) := by decide +kernel
theorem dX12_tax_61 : decode cX12_tax 61 = .ok (.iconst 3, 1) := by decide +kernel
theorem dX12_tax_62 : decode cX12_tax 62 = .ok (.iload_n 1, 1) := by decide +kernel
theorem dX12_tax_63 : decode cX12_tax 63 = .ok (.imul, 1) := by decide +kernel
theorem dX12_tax_64 : decode cX12_tax 64 = .ok (.iconst 2, 1) := by decide +kernel
theorem dX12_tax_65 : decode cX12_tax 65 = .ok (.iadd, 1) := by decide +kernel
theorem dX12_tax_66 : decode cX12_tax 66 = .ok (.iaload, 1) := by decide +kernel
theorem dX12_tax_67 : decode cX12_tax 67 = .ok (.i2l, 1) := by decide +kernel
theorem dX12_tax_68 : decode cX12_tax 68 = .ok (.lmul, 1) := by decide +kernel
theorem dX12_tax_69 : decode cX12_tax 69 = .ok (.ldc2_w 319, 3) := by decide +kernel
theorem dX12_tax_72 : decode cX12_tax 72 = .ok (.ldiv, 1) := by decide +kernel
theorem dX12_tax_73 : decode cX12_tax 73 = .ok (.l2i, 1) := by decide +kernel
theorem dX12_tax_74 : decode cX12_tax 74 = .ok (.iadd, 1) := by decide +kernel
theorem dX12_tax_75 : decode cX12_tax 75 = .ok (.istore_n 2, 1) := by decide +kernel
theorem dX12_tax_76 : decode cX12_tax 76 = .ok (.iinc 3 1, 3) := by decide +kernel
theorem dX12_tax_79 : decode cX12_tax 79 = .ok (.goto (-55), 3) := by decide +kernel
theorem dX12_tax_82 : decode cX12_tax 82 = .ok (.iload_n 2, 1) := by decide +kernel
theorem dX12_tax_83 : decode cX12_tax 83 = .ok (.ireturn, 1) := by decide +kernel
theorem dX12_without_0 : decode cX12_without 0 = .ok (.aload_n 0, 1) := by decide +kernel
theorem dX12_without_1 : decode cX12_without 1 = .ok (.iconst 0, 1) := by decide +kernel
theorem dX12_without_2 : decode cX12_without 2 = .ok (.putfield 81, 3) := by decide +kernel
theorem dX12_without_5 : decode cX12_without 5 = .ok (.aload_n 0, 1) := by decide +kernel
theorem dX12_without_6 : decode cX12_without 6 = .ok (.iload_n 1, 1) := by decide +kernel
theorem dX12_without_7 : decode cX12_without 7 = .ok (.invokevirtual 327, 3) := by decide +kernel
theorem dX12_without_10 : decode cX12_without 10 = .ok (.ifCond .ne 5, 3) := by decide +kernel
theorem dX12_without_13 : decode cX12_without 13 = .ok (.iconst (-1), 1) := by decide +kernel
theorem dX12_without_14 : decode cX12_without 14 = .ok (.ireturn, 1) := by decide +kernel
theorem dX12_without_15 : decode cX12_without 15 = .ok (.aload_n 0, 1) := by decide +kernel
theorem dX12_without_16 : decode cX12_without 16 = .ok (.iconst 0, 1) := by decide +kernel
theorem dX12_without_17 : decode cX12_without 17 = .ok (.iconst 1, 1) := by decide +kernel
theorem dX12_without_18 : decode cX12_without 18 = .ok (.invokevirtual 206, 3) := by decide +kernel
theorem dX12_without_21 : decode cX12_without 21 = .ok (.aload_n 0, 1) := by decide +kernel
theorem dX12_without_22 : decode cX12_without 22 = .ok (.iconst 1, 1) := by decide +kernel
theorem dX12_without_23 : decode cX12_without 23 = .ok (.putfield 148, 3) := by decide +kernel
theorem dX12_without_26 : decode cX12_without 26 = .ok (.iconst 0, 1) := by decide +kernel
theorem dX12_without_27 : decode cX12_without 27 = .ok (.istore_n 2, 1) := by decide +kernel
theorem dX12_without_28 : decode cX12_without 28 = .ok (.iconst 0, 1) := by decide +kernel
theorem dX12_without_29 : decode cX12_without 29 = .ok (.istore_n 3, 1) := by decide +kernel
theorem dX12_without_30 : decode cX12_without 30 = .ok (.iload_n 3, 1) := by decide +kernel
theorem dX12_without_31 : decode cX12_without 31 = .ok (.aload_n 0, 1) := by decide +kernel
theorem dX12_without_32 : decode cX12_without 32 = .ok (.getfield 32, 3) := by decide +kernel
theorem dX12_without_35 : decode cX12_without 35 = .ok (.iconst 0, 1) := by decide +kernel
theorem dX12_without_36 : decode cX12_without 36 = .ok (.iaload, 1) := by decide +kernel
theorem dX12_without_37 : decode cX12_without 37 = .ok (.if_icmp .ge 91, 3) := by decide +kernel
theorem dX12_without_40 : decode cX12_without 40 = .ok (.iconst 1, 1) := by decide +kernel
theorem dX12_without_41 : decode cX12_without 41 = .ok (.iconst 3, 1) := by decide +kernel
theorem dX12_without_42 : decode cX12_without 42 = .ok (.iload_n 3, 1) := by decide +kernel
theorem dX12_without_43 : decode cX12_without 43 = .ok (.imul, 1) := by decide +kernel
theorem dX12_without_44 : decode cX12_without 44 = .ok (.iadd, 1) := by decide +kernel
theorem dX12_without_45 : decode cX12_without 45 = .ok (.istore 4, 2) := by decide +kernel
theorem dX12_without_47 : decode cX12_without 47 = .ok (.aload_n 0, 1) := by decide +kernel
theorem dX12_without_48 : decode cX12_without 48 = .ok (.aload_n 0, 1) := by decide +kernel
theorem dX12_without_49 : decode cX12_without 49 = .ok (.getfield 32, 3) := by decide +kernel
theorem dX12_without_52 : decode cX12_without 52 = .ok (.iload 4, 2) := by decide +kernel
theorem dX12_without_54 : decode cX12_without 54 = .ok (.iaload, 1) := by decide +kernel
theorem dX12_without_55 : decode cX12_without 55 = .ok (.invokevirtual 239, 3) := by decide +kernel
theorem dX12_without_58 : decode cX12_without 58 = .ok (.iload_n 1, 1) := by decide +kernel
theorem dX12_without_59 : decode cX12_without 59 = .ok (.if_icmp .eq 63, 3) := by decide +kernel
theorem dX12_without_62 : decode cX12_without 62 = .ok (.aload_n 0, 1) := by decide +kernel
theorem dX12_without_63 : decode cX12_without 63 = .ok (.aload_n 0, 1) := by decide +kernel
theorem dX12_without_64 : decode cX12_without 64 = .ok (.getfield 32, 3) := by decide +kernel
theorem dX12_without_67 : decode cX12_without 67 = .ok (.iload 4, 2) := by decide +kernel
theorem dX12_without_69 : decode cX12_without 69 = .ok (.iconst 1, 1) := by decide +kernel
theorem dX12_without_70 : decode cX12_without 70 = .ok (.iadd, 1) := by decide +kernel
theorem dX12_without_71 : decode cX12_without 71 = .ok (.iaload, 1) := by decide +kernel
theorem dX12_without_72 : decode cX12_without 72 = .ok (.invokevirtual 239, 3) := by decide +kernel
theorem dX12_without_75 : decode cX12_without 75 = .ok (.iload_n 1, 1) := by decide +kernel
theorem dX12_without_76 : decode cX12_without 76 = .ok (.if_icmp .ne 6, 3) := by decide +kernel
theorem dX12_without_79 : decode cX12_without 79 = .ok (.goto 43, 3) := by decide +kernel
theorem dX12_without_82 : decode cX12_without 82 = .ok (.iconst 0, 1) := by decide +kernel
theorem dX12_without_83 : decode cX12_without 83 = .ok (.istore 5, 2) := by decide +kernel
theorem dX12_without_85 : decode cX12_without 85 = .ok (.iload 5, 2) := by decide +kernel
theorem dX12_without_87 : decode cX12_without 87 = .ok (.iconst 3, 1) := by decide +kernel
theorem dX12_without_88 : decode cX12_without 88 = .ok (.if_icmp .ge 31, 3) := by decide +kernel
theorem dX12_without_91 : decode cX12_without 91 = .ok (.aload_n 0, 1) := by decide +kernel
theorem dX12_without_92 : decode cX12_without 92 = .ok (.iconst 1, 1) := by decide +kernel
theorem dX12_without_93 : decode cX12_without 93 = .ok (.iconst 3, 1) := by decide +kernel
theorem dX12_without_94 : decode cX12_without 94 = .ok (.iload_n 2, 1) := by decide +kernel
theorem dX12_without_95 : decode cX12_without 95 = .ok (.imul, 1) := by decide +kernel
theorem dX12_without_96 : decode cX12_without 96 = .ok (.iadd, 1) := by decide +kernel
theorem dX12_without_97 : decode cX12_without 97 = .ok (.iload 5, 2) := by decide +kernel
theorem dX12_without_99 : decode cX12_without 99 = .ok (.iadd, 1) := by decide +kernel
theorem dX12_without_100 : decode cX12_without 100 = .ok (.aload_n 0, 1) := by decide +kernel
theorem dX12_without_101 : decode cX12_without 101 = .ok (.getfield 32, 3) := by decide +kernel
theorem dX12_without_104 : decode cX12_without 104 = .ok (.iload 4, 2) := by decide +kernel
theorem dX12_without_106 : decode cX12_without 106 = .ok (.iload 5, 2) := by decide +kernel
theorem dX12_without_108 : decode cX12_without 108 = .ok (.iadd, 1) := by decide +kernel
theorem dX12_without_109 : decode cX12_without 109 = .ok (.iaload, 1) := by decide +kernel
theorem dX12_without_110 : decode cX12_without 110 = .ok (.invokevirtual 158, 3) := by decide +kernel
theorem dX12_without_113 : decode cX12_without 113 = .ok (.iinc 5 1, 3) := by decide +kernel
theorem dX12_without_116 : decode cX12_without 116 = .ok (.goto (-31), 3) := by decide +kernel
theorem dX12_without_119 : decode cX12_without 119 = .ok (.iinc 2 1, 3) := by decide +kernel
theorem dX12_without_122 : decode cX12_without 122 = .ok (.iinc 3 1, 3) := by decide +kernel
theorem dX12_without_125 : decode cX12_without 125 = .ok (.goto (-95), 3) := by decide +kernel
theorem dX12_without_128 : decode cX12_without 128 = .ok (.aload_n 0, 1) := by decide +kernel
theorem dX12_without_129 : decode cX12_without 129 = .ok (.iconst 0, 1) := by decide +kernel
theorem dX12_without_130 : decode cX12_without 130 = .ok (.iload_n 2, 1) := by decide +kernel
theorem dX12_without_131 : decode cX12_without 131 = .ok (.invokevirtual 158, 3) := by decide +kernel
theorem dX12_without_134 : decode cX12_without 134 = .ok (.aload_n 0, 1) := by decide +kernel
theorem dX12_without_135 : decode cX12_without 135 = .ok (.iload_n 1, 1) := by decide +kernel
theorem dX12_without_136 : decode cX12_without 136 = .ok (.putfield 57, 3) := by decide +kernel
theorem dX12_without_139 : decode cX12_without 139 = .ok (.aload_n 0, 1) := by decide +kernel
theorem dX12_without_140 : decode cX12_without 140 = .ok (.invokevirtual 324, 3) := by decide +kernel
theorem dX12_without_143 : decode cX12_without 143 = .ok (.istore_n 3, 1) := by decide +kernel
theorem dX12_without_144 : decode cX12_without 144 = .ok (.aload_n 0, 1) := by decide +kernel
theorem dX12_without_145 : decode cX12_without 145 = .ok (.iconst (-1), 1) := by decide +kernel
theorem dX12_without_146 : decode cX12_without 146 = .ok (.putfield 57, 3) := by decide +kernel
theorem dX12_without_149 : decode cX12_without 149 = .ok (.aload_n 0, 1) := by decide +kernel
theorem dX12_without_150 : decode cX12_without 150 = .ok (.iconst 0, 1) := by decide +kernel
theorem dX12_without_151 : decode cX12_without 151 = .ok (.putfield 148, 3) := by decide +kernel
theorem dX12_without_154 : decode cX12_without 154 = .ok (.iload_n 3, 1) := by decide +kernel
theorem dX12_without_155 : decode cX12_without 155 = .ok (.ireturn, 1) := by decide +kernel
theorem dX12_worth_0 : decode cX12_worth 0 = .ok (.aload_n 0, 1) := by decide +kernel
theorem dX12_worth_1 : decode cX12_worth 1 = .ok (.iconst 0, 1) := by decide +kernel
theorem dX12_worth_2 : decode cX12_worth 2 = .ok (.putfield 81, 3) := by decide +kernel
theorem dX12_worth_5 : decode cX12_worth 5 = .ok (.aload_n 0, 1) := by decide +kernel
theorem dX12_worth_6 : decode cX12_worth 6 = .ok (.iload_n 1, 1) := by decide +kernel
theorem dX12_worth_7 : decode cX12_worth 7 = .ok (.iload_n 2, 1) := by decide +kernel
theorem dX12_worth_8 : decode cX12_worth 8 = .ok (.invokevirtual 267, 3) := by decide +kernel
theorem dX12_worth_11 : decode cX12_worth 11 = .ok (.ifCond .eq 13, 3) := by decide +kernel
theorem dX12_worth_14 : decode cX12_worth 14 = .ok (.iload_n 3, 1) := by decide +kernel
theorem dX12_worth_15 : decode cX12_worth 15 = .ok (.iconst 1, 1) := by decide +kernel
theorem dX12_worth_16 : decode cX12_worth 16 = .ok (.ldc 119, 2) := by decide +kernel
theorem dX12_worth_18 : decode cX12_worth 18 = .ok (.invokestatic 165, 3) := by decide +kernel
theorem dX12_worth_21 : decode cX12_worth 21 = .ok (.ifCond .ne 5, 3) := by decide +kernel
theorem dX12_worth_24 : decode cX12_worth 24 = .ok (.iconst (-1), 1) := by decide +kernel
theorem dX12_worth_25 : decode cX12_worth 25 = .ok (.ireturn, 1) := by decide +kernel
theorem dX12_worth_26 : decode cX12_worth 26 = .ok (.aload_n 0, 1) := by decide +kernel
theorem dX12_worth_27 : decode cX12_worth 27 = .ok (.invokevirtual 324, 3) := by decide +kernel
theorem dX12_worth_30 : decode cX12_worth 30 = .ok (.istore 4, 2) := by decide +kernel
theorem dX12_worth_32 : decode cX12_worth 32 = .ok (.aload_n 0, 1) := by decide +kernel
theorem dX12_worth_33 : decode cX12_worth 33 = .ok (.aload_n 0, 1) := by decide +kernel
theorem dX12_worth_34 : decode cX12_worth 34 = .ok (.getfield 29, 3) := by decide +kernel
theorem dX12_worth_37 : decode cX12_worth 37 = .ok (.iconst 0, 1) := by decide +kernel
theorem dX12_worth_38 : decode cX12_worth 38 = .ok (.iaload, 1) := by decide +kernel
theorem dX12_worth_39 : decode cX12_worth 39 = .ok (.iconst 1, 1) := by decide +kernel
theorem dX12_worth_40 : decode cX12_worth 40 = .ok (.invokevirtual 299, 3) := by decide +kernel
theorem dX12_worth_43 : decode cX12_worth 43 = .ok (.aload_n 0, 1) := by decide +kernel
theorem dX12_worth_44 : decode cX12_worth 44 = .ok (.getfield 51, 3) := by decide +kernel
theorem dX12_worth_47 : decode cX12_worth 47 = .ok (.bipush 12, 2) := by decide +kernel
theorem dX12_worth_49 : decode cX12_worth 49 = .ok (.iload_n 1, 1) := by decide +kernel
theorem dX12_worth_50 : decode cX12_worth 50 = .ok (.imul, 1) := by decide +kernel
theorem dX12_worth_51 : decode cX12_worth 51 = .ok (.iload_n 2, 1) := by decide +kernel
theorem dX12_worth_52 : decode cX12_worth 52 = .ok (.iadd, 1) := by decide +kernel
theorem dX12_worth_53 : decode cX12_worth 53 = .ok (.dup2, 1) := by decide +kernel
theorem dX12_worth_54 : decode cX12_worth 54 = .ok (.iaload, 1) := by decide +kernel
theorem dX12_worth_55 : decode cX12_worth 55 = .ok (.iload_n 3, 1) := by decide +kernel
theorem dX12_worth_56 : decode cX12_worth 56 = .ok (.iadd, 1) := by decide +kernel
theorem dX12_worth_57 : decode cX12_worth 57 = .ok (.iastore, 1) := by decide +kernel
theorem dX12_worth_58 : decode cX12_worth 58 = .ok (.aload_n 0, 1) := by decide +kernel
theorem dX12_worth_59 : decode cX12_worth 59 = .ok (.invokevirtual 303, 3) := by decide +kernel
theorem dX12_worth_62 : decode cX12_worth 62 = .ok (.iload 4, 2) := by decide +kernel
theorem dX12_worth_64 : decode cX12_worth 64 = .ok (.isub, 1) := by decide +kernel
theorem dX12_worth_65 : decode cX12_worth 65 = .ok (.ireturn, 1) := by decide +kernel
theorem dX12_lack_0 : decode cX12_lack 0 = .ok (.aload_n 0, 1) := by decide +kernel
theorem dX12_lack_1 : decode cX12_lack 1 = .ok (.iconst 0, 1) := by decide +kernel
theorem dX12_lack_2 : decode cX12_lack 2 = .ok (.putfield 81, 3) := by decide +kernel
theorem dX12_lack_5 : decode cX12_lack 5 = .ok (.aload_n 0, 1) := by decide +kernel
theorem dX12_lack_6 : decode cX12_lack 6 = .ok (.iload_n 1, 1) := by decide +kernel
theorem dX12_lack_7 : decode cX12_lack 7 = .ok (.iload_n 2, 1) := by decide +kernel
theorem dX12_lack_8 : decode cX12_lack 8 = .ok (.invokevirtual 267, 3) := by decide +kernel
theorem dX12_lack_11 : decode cX12_lack 11 = .ok (.ifCond .eq 13, 3) := by decide +kernel
theorem dX12_lack_14 : decode cX12_lack 14 = .ok (.iload_n 3, 1) := by decide +kernel
theorem dX12_lack_15 : decode cX12_lack 15 = .ok (.iconst 1, 1) := by decide +kernel
theorem dX12_lack_16 : decode cX12_lack 16 = .ok (.ldc 119, 2) := by decide +kernel
theorem dX12_lack_18 : decode cX12_lack 18 = .ok (.invokestatic 165, 3) := by decide +kernel
theorem dX12_lack_21 : decode cX12_lack 21 = .ok (.ifCond .ne 5, 3) := by decide +kernel
theorem dX12_lack_24 : decode cX12_lack 24 = .ok (.iconst (-1), 1) := by decide +kernel
theorem dX12_lack_25 : decode cX12_lack 25 = .ok (.ireturn, 1) := by decide +kernel
theorem dX12_lack_26 : decode cX12_lack 26 = .ok (.aload_n 0, 1) := by decide +kernel
theorem dX12_lack_27 : decode cX12_lack 27 = .ok (.invokevirtual 324, 3) := by decide +kernel
theorem dX12_lack_30 : decode cX12_lack 30 = .ok (.istore 4, 2) := by decide +kernel
theorem dX12_lack_32 : decode cX12_lack 32 = .ok (.aload_n 0, 1) := by decide +kernel
theorem dX12_lack_33 : decode cX12_lack 33 = .ok (.aload_n 0, 1) := by decide +kernel
theorem dX12_lack_34 : decode cX12_lack 34 = .ok (.getfield 29, 3) := by decide +kernel
theorem dX12_lack_37 : decode cX12_lack 37 = .ok (.iconst 0, 1) := by decide +kernel
theorem dX12_lack_38 : decode cX12_lack 38 = .ok (.iaload, 1) := by decide +kernel
theorem dX12_lack_39 : decode cX12_lack 39 = .ok (.iconst 1, 1) := by decide +kernel
theorem dX12_lack_40 : decode cX12_lack 40 = .ok (.invokevirtual 299, 3) := by decide +kernel
theorem dX12_lack_43 : decode cX12_lack 43 = .ok (.aload_n 0, 1) := by decide +kernel
theorem dX12_lack_44 : decode cX12_lack 44 = .ok (.getfield 51, 3) := by decide +kernel
theorem dX12_lack_47 : decode cX12_lack 47 = .ok (.bipush 12, 2) := by decide +kernel
theorem dX12_lack_49 : decode cX12_lack 49 = .ok (.iload_n 1, 1) := by decide +kernel
theorem dX12_lack_50 : decode cX12_lack 50 = .ok (.imul, 1) := by decide +kernel
theorem dX12_lack_51 : decode cX12_lack 51 = .ok (.iload_n 2, 1) := by decide +kernel
theorem dX12_lack_52 : decode cX12_lack 52 = .ok (.iadd, 1) := by decide +kernel
theorem dX12_lack_53 : decode cX12_lack 53 = .ok (.aload_n 0, 1) := by decide +kernel
theorem dX12_lack_54 : decode cX12_lack 54 = .ok (.getfield 51, 3) := by decide +kernel
theorem dX12_lack_57 : decode cX12_lack 57 = .ok (.bipush 12, 2) := by decide +kernel
theorem dX12_lack_59 : decode cX12_lack 59 = .ok (.iload_n 1, 1) := by decide +kernel
theorem dX12_lack_60 : decode cX12_lack 60 = .ok (.imul, 1) := by decide +kernel
theorem dX12_lack_61 : decode cX12_lack 61 = .ok (.iload_n 2, 1) := by decide +kernel
theorem dX12_lack_62 : decode cX12_lack 62 = .ok (.iadd, 1) := by decide +kernel
theorem dX12_lack_63 : decode cX12_lack 63 = .ok (.iaload, 1) := by decide +kernel
theorem dX12_lack_64 : decode cX12_lack 64 = .ok (.iload_n 3, 1) := by decide +kernel
theorem dX12_lack_65 : decode cX12_lack 65 = .ok (.if_icmp .le 19, 3) := by decide +kernel
theorem dX12_lack_68 : decode cX12_lack 68 = .ok (.aload_n 0, 1) := by decide +kernel
theorem dX12_lack_69 : decode cX12_lack 69 = .ok (.getfield 51, 3) := by decide +kernel
theorem dX12_lack_72 : decode cX12_lack 72 = .ok (.bipush 12, 2) := by decide +kernel
theorem dX12_lack_74 : decode cX12_lack 74 = .ok (.iload_n 1, 1) := by decide +kernel
theorem dX12_lack_75 : decode cX12_lack 75 = .ok (.imul, 1) := by decide +kernel
theorem dX12_lack_76 : decode cX12_lack 76 = .ok (.iload_n 2, 1) := by decide +kernel
theorem dX12_lack_77 : decode cX12_lack 77 = .ok (.iadd, 1) := by decide +kernel
theorem dX12_lack_78 : decode cX12_lack 78 = .ok (.iaload, 1) := by decide +kernel
theorem dX12_lack_79 : decode cX12_lack 79 = .ok (.iload_n 3, 1) := by decide +kernel
theorem dX12_lack_80 : decode cX12_lack 80 = .ok (.isub, 1) := by decide +kernel
theorem dX12_lack_81 : decode cX12_lack 81 = .ok (.goto 4, 3) := by decide +kernel
theorem dX12_lack_84 : decode cX12_lack 84 = .ok (.iconst 0, 1) := by decide +kernel
theorem dX12_lack_85 : decode cX12_lack 85 = .ok (.iastore, 1) := by decide +kernel
theorem dX12_lack_86 : decode cX12_lack 86 = .ok (.iload 4, 2) := by decide +kernel
theorem dX12_lack_88 : decode cX12_lack 88 = .ok (.aload_n 0, 1) := by decide +kernel
theorem dX12_lack_89 : decode cX12_lack 89 = .ok (.invokevirtual 303, 3) := by decide +kernel
theorem dX12_lack_92 : decode cX12_lack 92 = .ok (.isub, 1) := by decide +kernel
theorem dX12_lack_93 : decode cX12_lack 93 = .ok (.ireturn, 1) := by decide +kernel
theorem dX12_byCarry_0 : decode cX12_byCarry 0 = .ok (.aload_n 0, 1) := by decide +kernel
theorem dX12_byCarry_1 : decode cX12_byCarry 1 = .ok (.iconst 0, 1) := by decide +kernel
theorem dX12_byCarry_2 : decode cX12_byCarry 2 = .ok (.putfield 81, 3) := by decide +kernel
theorem dX12_byCarry_5 : decode cX12_byCarry 5 = .ok (.iload_n 1, 1) := by decide +kernel
theorem dX12_byCarry_6 : decode cX12_byCarry 6 = .ok (.iconst 0, 1) := by decide +kernel
theorem dX12_byCarry_7 : decode cX12_byCarry 7 = .ok (.iconst 1, 1) := by decide +kernel
theorem dX12_byCarry_8 : decode cX12_byCarry 8 = .ok (.invokestatic 165, 3) := by decide +kernel
theorem dX12_byCarry_11 : decode cX12_byCarry 11 = .ok (.ifCond .ne 5, 3) := by decide +kernel
theorem dX12_byCarry_14 : decode cX12_byCarry 14 = .ok (.iconst (-1), 1) := by decide +kernel
theorem dX12_byCarry_15 : decode cX12_byCarry 15 = .ok (.ireturn, 1) := by decide +kernel
theorem dX12_byCarry_16 : decode cX12_byCarry 16 = .ok (.aload_n 0, 1) := by decide +kernel
theorem dX12_byCarry_17 : decode cX12_byCarry 17 = .ok (.iload_n 1, 1) := by decide +kernel
theorem dX12_byCarry_18 : decode cX12_byCarry 18 = .ok (.putfield 145, 3) := by decide +kernel
theorem dX12_byCarry_21 : decode cX12_byCarry 21 = .ok (.aload_n 0, 1) := by decide +kernel
theorem dX12_byCarry_22 : decode cX12_byCarry 22 = .ok (.aload_n 0, 1) := by decide +kernel
theorem dX12_byCarry_23 : decode cX12_byCarry 23 = .ok (.getfield 29, 3) := by decide +kernel
theorem dX12_byCarry_26 : decode cX12_byCarry 26 = .ok (.iconst 0, 1) := by decide +kernel
theorem dX12_byCarry_27 : decode cX12_byCarry 27 = .ok (.iaload, 1) := by decide +kernel
theorem dX12_byCarry_28 : decode cX12_byCarry 28 = .ok (.invokevirtual 375, 3) := by decide +kernel
theorem dX12_byCarry_31 : decode cX12_byCarry 31 = .ok (.istore_n 2, 1) := by decide +kernel
theorem dX12_byCarry_32 : decode cX12_byCarry 32 = .ok (.aload_n 0, 1) := by decide +kernel
theorem dX12_byCarry_33 : decode cX12_byCarry 33 = .ok (.aload_n 0, 1) := by decide +kernel
theorem dX12_byCarry_34 : decode cX12_byCarry 34 = .ok (.getfield 29, 3) := by decide +kernel
theorem dX12_byCarry_37 : decode cX12_byCarry 37 = .ok (.iconst 3, 1) := by decide +kernel
theorem dX12_byCarry_38 : decode cX12_byCarry 38 = .ok (.iaload, 1) := by decide +kernel
theorem dX12_byCarry_39 : decode cX12_byCarry 39 = .ok (.putfield 145, 3) := by decide +kernel
theorem dX12_byCarry_42 : decode cX12_byCarry 42 = .ok (.iload_n 2, 1) := by decide +kernel
theorem dX12_byCarry_43 : decode cX12_byCarry 43 = .ok (.ireturn, 1) := by decide +kernel
theorem dX12_carried_0 : decode cX12_carried 0 = .ok (.aload_n 0, 1) := by decide +kernel
theorem dX12_carried_1 : decode cX12_carried 1 = .ok (.iconst 0, 1) := by decide +kernel
theorem dX12_carried_2 : decode cX12_carried 2 = .ok (.putfield 81, 3) := by decide +kernel
theorem dX12_carried_5 : decode cX12_carried 5 = .ok (.iload_n 1, 1) := by decide +kernel
theorem dX12_carried_6 : decode cX12_carried 6 = .ok (.iconst 0, 1) := by decide +kernel
theorem dX12_carried_7 : decode cX12_carried 7 = .ok (.iconst 3, 1) := by decide +kernel
theorem dX12_carried_8 : decode cX12_carried 8 = .ok (.invokestatic 165, 3) := by decide +kernel
theorem dX12_carried_11 : decode cX12_carried 11 = .ok (.ifCond .ne 5, 3) := by decide +kernel
theorem dX12_carried_14 : decode cX12_carried 14 = .ok (.iconst (-1), 1) := by decide +kernel
theorem dX12_carried_15 : decode cX12_carried 15 = .ok (.ireturn, 1) := by decide +kernel
theorem dX12_carried_16 : decode cX12_carried 16 = .ok (.iconst 0, 1) := by decide +kernel
theorem dX12_carried_17 : decode cX12_carried 17 = .ok (.istore_n 2, 1) := by decide +kernel
theorem dX12_carried_18 : decode cX12_carried 18 = .ok (.iload_n 1, 1) := by decide +kernel
theorem dX12_carried_19 : decode cX12_carried 19 = .ok (.iconst 1, 1) := by decide +kernel
theorem dX12_carried_20 : decode cX12_carried 20 = .ok (.if_icmp .le 75, 3) := by decide +kernel
theorem dX12_carried_23 : decode cX12_carried 23 = .ok (.iconst 0, 1) := by decide +kernel
theorem dX12_carried_24 : decode cX12_carried 24 = .ok (.istore_n 3, 1) := by decide +kernel
theorem dX12_carried_25 : decode cX12_carried 25 = .ok (.iload_n 3, 1) := by decide +kernel
theorem dX12_carried_26 : decode cX12_carried 26 = .ok (.aload_n 0, 1) := by decide +kernel
theorem dX12_carried_27 : decode cX12_carried 27 = .ok (.iconst 0, 1) := by decide +kernel
theorem dX12_carried_28 : decode cX12_carried 28 = .ok (.invokevirtual 209, 3) := by decide +kernel
theorem dX12_carried_31 : decode cX12_carried 31 = .ok (.if_icmp .ge 62, 3) := by decide +kernel
theorem dX12_carried_34 : decode cX12_carried 34 = .ok (.iconst 1, 1) := by decide +kernel
theorem dX12_carried_35 : decode cX12_carried 35 = .ok (.iconst 3, 1) := by decide +kernel
theorem dX12_carried_36 : decode cX12_carried 36 = .ok (.iload_n 3, 1) := by decide +kernel
theorem dX12_carried_37 : decode cX12_carried 37 = .ok (.imul, 1) := by decide +kernel
theorem dX12_carried_38 : decode cX12_carried 38 = .ok (.iadd, 1) := by decide +kernel
theorem dX12_carried_39 : decode cX12_carried 39 = .ok (.istore 4, 2) := by decide +kernel
theorem dX12_carried_41 : decode cX12_carried 41 = .ok (.iload_n 2, 1) := by decide +kernel
theorem dX12_carried_42 : decode cX12_carried 42 = .ok (.aload_n 0, 1) := by decide +kernel
theorem dX12_carried_43 : decode cX12_carried 43 = .ok (.aload_n 0, 1) := by decide +kernel
theorem dX12_carried_44 : decode cX12_carried 44 = .ok (.iload 4, 2) := by decide +kernel
theorem dX12_carried_46 : decode cX12_carried 46 = .ok (.invokevirtual 209, 3) := by decide +kernel
theorem dX12_carried_49 : decode cX12_carried 49 = .ok (.aload_n 0, 1) := by decide +kernel
theorem dX12_carried_50 : decode cX12_carried 50 = .ok (.iload 4, 2) := by decide +kernel
theorem dX12_carried_52 : decode cX12_carried 52 = .ok (.iconst 1, 1) := by decide +kernel
theorem dX12_carried_53 : decode cX12_carried 53 = .ok (.iadd, 1) := by decide +kernel
theorem dX12_carried_54 : decode cX12_carried 54 = .ok (.invokevirtual 209, 3) := by decide +kernel
theorem dX12_carried_57 : decode cX12_carried 57 = .ok (.invokevirtual 252, 3) := by decide +kernel
theorem dX12_carried_60 : decode cX12_carried 60 = .ok (.iload_n 1, 1) := by decide +kernel
theorem dX12_carried_61 : decode cX12_carried 61 = .ok (.iconst 2, 1) := by decide +kernel
theorem dX12_carried_62 : decode cX12_carried 62 = .ok (.if_icmp .ne 7, 3) := by decide +kernel
theorem dX12_carried_65 : decode cX12_carried 65 = .ok (.iconst 1, 1) := by decide +kernel
theorem dX12_carried_66 : decode cX12_carried 66 = .ok (.goto 4, 3) := by decide +kernel
theorem dX12_carried_69 : decode cX12_carried 69 = .ok (.iconst 0, 1) := by decide +kernel
theorem dX12_carried_70 : decode cX12_carried 70 = .ok (.if_icmp .ne 14, 3) := by decide +kernel
theorem dX12_carried_73 : decode cX12_carried 73 = .ok (.aload_n 0, 1) := by decide +kernel
theorem dX12_carried_74 : decode cX12_carried 74 = .ok (.iload 4, 2) := by decide +kernel
theorem dX12_carried_76 : decode cX12_carried 76 = .ok (.iconst 2, 1) := by decide +kernel
theorem dX12_carried_77 : decode cX12_carried 77 = .ok (.iadd, 1) := by decide +kernel
theorem dX12_carried_78 : decode cX12_carried 78 = .ok (.invokevirtual 209, 3) := by decide +kernel
theorem dX12_carried_81 : decode cX12_carried 81 = .ok (.goto 4, 3) := by decide +kernel
theorem dX12_carried_84 : decode cX12_carried 84 = .ok (.iconst 0, 1) := by decide +kernel
theorem dX12_carried_85 : decode cX12_carried 85 = .ok (.iadd, 1) := by decide +kernel
theorem dX12_carried_86 : decode cX12_carried 86 = .ok (.istore_n 2, 1) := by decide +kernel
theorem dX12_carried_87 : decode cX12_carried 87 = .ok (.iinc 3 1, 3) := by decide +kernel
theorem dX12_carried_90 : decode cX12_carried 90 = .ok (.goto (-65), 3) := by decide +kernel
theorem dX12_carried_93 : decode cX12_carried 93 = .ok (.iload_n 2, 1) := by decide +kernel
theorem dX12_carried_94 : decode cX12_carried 94 = .ok (.ireturn, 1) := by decide +kernel
theorem dX12_carried_95 : decode cX12_carried 95 = .ok (.aload_n 0, 1) := by decide +kernel
theorem dX12_carried_96 : decode cX12_carried 96 = .ok (.invokevirtual 324, 3) := by decide +kernel
theorem dX12_carried_99 : decode cX12_carried 99 = .ok (.pop, 1) := by decide +kernel
theorem dX12_carried_100 : decode cX12_carried 100 = .ok (.iconst 0, 1) := by decide +kernel
theorem dX12_carried_101 : decode cX12_carried 101 = .ok (.istore_n 3, 1) := by decide +kernel
theorem dX12_carried_102 : decode cX12_carried 102 = .ok (.iload_n 3, 1) := by decide +kernel
theorem dX12_carried_103 : decode cX12_carried 103 = .ok (.sipush 144, 3) := by decide +kernel
theorem dX12_carried_106 : decode cX12_carried 106 = .ok (.if_icmp .ge 55, 3) := by decide +kernel
theorem dX12_carried_109 : decode cX12_carried 109 = .ok (.iload_n 2, 1) := by decide +kernel
theorem dX12_carried_110 : decode cX12_carried 110 = .ok (.aload_n 0, 1) := by decide +kernel
theorem dX12_carried_111 : decode cX12_carried 111 = .ok (.getfield 54, 3) := by decide +kernel
theorem dX12_carried_114 : decode cX12_carried 114 = .ok (.iload_n 3, 1) := by decide +kernel
theorem dX12_carried_115 : decode cX12_carried 115 = .ok (.iaload, 1) := by decide +kernel
theorem dX12_carried_116 : decode cX12_carried 116 = .ok (.ifCond .le 36, 3) := by decide +kernel
theorem dX12_carried_119 : decode cX12_carried 119 = .ok (.aload_n 0, 1) := by decide +kernel
theorem dX12_carried_120 : decode cX12_carried 120 = .ok (.iload_n 3, 1) := by decide +kernel
theorem dX12_carried_121 : decode cX12_carried 121 = .ok (.bipush 12, 2) := by decide +kernel
theorem dX12_carried_123 : decode cX12_carried 123 = .ok (.idiv, 1) := by decide +kernel
theorem dX12_carried_124 : decode cX12_carried 124 = .ok (.iload_n 3, 1) := by decide +kernel
theorem dX12_carried_125 : decode cX12_carried 125 = .ok (.bipush 12, 2) := by decide +kernel
theorem dX12_carried_127 : decode cX12_carried 127 = .ok (.irem, 1) := by decide +kernel
theorem dX12_carried_128 : decode cX12_carried 128 = .ok (.invokevirtual 252, 3) := by decide +kernel
theorem dX12_carried_131 : decode cX12_carried 131 = .ok (.iload_n 1, 1) := by decide +kernel
theorem dX12_carried_132 : decode cX12_carried 132 = .ok (.ifCond .ne 7, 3) := by decide +kernel
theorem dX12_carried_135 : decode cX12_carried 135 = .ok (.iconst 1, 1) := by decide +kernel
theorem dX12_carried_136 : decode cX12_carried 136 = .ok (.goto 4, 3) := by decide +kernel
theorem dX12_carried_139 : decode cX12_carried 139 = .ok (.iconst 0, 1) := by decide +kernel
theorem dX12_carried_140 : decode cX12_carried 140 = .ok (.if_icmp .ne 12, 3) := by decide +kernel
theorem dX12_carried_143 : decode cX12_carried 143 = .ok (.aload_n 0, 1) := by decide +kernel
theorem dX12_carried_144 : decode cX12_carried 144 = .ok (.getfield 54, 3) := by decide +kernel
theorem dX12_carried_147 : decode cX12_carried 147 = .ok (.iload_n 3, 1) := by decide +kernel
theorem dX12_carried_148 : decode cX12_carried 148 = .ok (.iaload, 1) := by decide +kernel
theorem dX12_carried_149 : decode cX12_carried 149 = .ok (.goto 4, 3) := by decide +kernel
theorem dX12_carried_152 : decode cX12_carried 152 = .ok (.iconst 0, 1) := by decide +kernel
theorem dX12_carried_153 : decode cX12_carried 153 = .ok (.iadd, 1) := by decide +kernel
theorem dX12_carried_154 : decode cX12_carried 154 = .ok (.istore_n 2, 1) := by decide +kernel
theorem dX12_carried_155 : decode cX12_carried 155 = .ok (.iinc 3 1, 3) := by decide +kernel
theorem dX12_carried_158 : decode cX12_carried 158 = .ok (.goto (-56), 3) := by decide +kernel
theorem dX12_carried_161 : decode cX12_carried 161 = .ok (.iload_n 2, 1) := by decide +kernel
theorem dX12_carried_162 : decode cX12_carried 162 = .ok (.ireturn, 1) := by decide +kernel
theorem dX12_route_0 : decode cX12_route 0 = .ok (.aload_n 0, 1) := by decide +kernel
theorem dX12_route_1 : decode cX12_route 1 = .ok (.iconst 0, 1) := by decide +kernel
theorem dX12_route_2 : decode cX12_route 2 = .ok (.putfield 81, 3) := by decide +kernel
theorem dX12_route_5 : decode cX12_route 5 = .ok (.iload_n 1, 1) := by decide +kernel
theorem dX12_route_6 : decode cX12_route 6 = .ok (.ifCond .ge 5, 3) := by decide +kernel
theorem dX12_route_9 : decode cX12_route 9 = .ok (.iconst (-1), 1) := by decide +kernel
theorem dX12_route_10 : decode cX12_route 10 = .ok (.ireturn, 1) := by decide +kernel
theorem dX12_route_11 : decode cX12_route 11 = .ok (.aload_n 0, 1) := by decide +kernel
theorem dX12_route_12 : decode cX12_route 12 = .ok (.aload_n 0, 1) := by decide +kernel
theorem dX12_route_13 : decode cX12_route 13 = .ok (.getfield 29, 3) := by decide +kernel
theorem dX12_route_16 : decode cX12_route 16 = .ok (.iconst 0, 1) := by decide +kernel
theorem dX12_route_17 : decode cX12_route 17 = .ok (.iaload, 1) := by decide +kernel
theorem dX12_route_18 : decode cX12_route 18 = .ok (.iconst 1, 1) := by decide +kernel
theorem dX12_route_19 : decode cX12_route 19 = .ok (.invokevirtual 299, 3) := by decide +kernel
theorem dX12_route_22 : decode cX12_route 22 = .ok (.iconst 0, 1) := by decide +kernel
theorem dX12_route_23 : decode cX12_route 23 = .ok (.istore_n 2, 1) := by decide +kernel
theorem dX12_route_24 : decode cX12_route 24 = .ok (.iload_n 2, 1) := by decide +kernel
theorem dX12_route_25 : decode cX12_route 25 = .ok (.sipush 144, 3) := by decide +kernel
theorem dX12_route_28 : decode cX12_route 28 = .ok (.if_icmp .ge 16, 3) := by decide +kernel
theorem dX12_route_31 : decode cX12_route 31 = .ok (.aload_n 0, 1) := by decide +kernel
theorem dX12_route_32 : decode cX12_route 32 = .ok (.getfield 54, 3) := by decide +kernel
theorem dX12_route_35 : decode cX12_route 35 = .ok (.iload_n 2, 1) := by decide +kernel
theorem dX12_route_36 : decode cX12_route 36 = .ok (.iconst 0, 1) := by decide +kernel
theorem dX12_route_37 : decode cX12_route 37 = .ok (.iastore, 1) := by decide +kernel
theorem dX12_route_38 : decode cX12_route 38 = .ok (.iinc 2 1, 3) := by decide +kernel
theorem dX12_route_41 : decode cX12_route 41 = .ok (.goto (-17), 3) := by decide +kernel
theorem dX12_route_44 : decode cX12_route 44 = .ok (.aload_n 0, 1) := by decide +kernel
theorem dX12_route_45 : decode cX12_route 45 = .ok (.invokevirtual 292, 3) := by decide +kernel
theorem dX12_route_48 : decode cX12_route 48 = .ok (.aload_n 0, 1) := by decide +kernel
theorem dX12_route_49 : decode cX12_route 49 = .ok (.invokevirtual 295, 3) := by decide +kernel
theorem dX12_route_52 : decode cX12_route 52 = .ok (.istore_n 2, 1) := by decide +kernel
theorem dX12_route_53 : decode cX12_route 53 = .ok (.iload_n 2, 1) := by decide +kernel
theorem dX12_route_54 : decode cX12_route 54 = .ok (.ifCond .lt 13, 3) := by decide +kernel
theorem dX12_route_57 : decode cX12_route 57 = .ok (.iload_n 1, 1) := by decide +kernel
theorem dX12_route_58 : decode cX12_route 58 = .ok (.aload_n 0, 1) := by decide +kernel
theorem dX12_route_59 : decode cX12_route 59 = .ok (.getfield 63, 3) := by decide +kernel
theorem dX12_route_62 : decode cX12_route 62 = .ok (.iload_n 2, 1) := by decide +kernel
theorem dX12_route_63 : decode cX12_route 63 = .ok (.iaload, 1) := by decide +kernel
theorem dX12_route_64 : decode cX12_route 64 = .ok (.if_icmp .lt 8, 3) := by decide +kernel
theorem dX12_route_67 : decode cX12_route 67 = .ok (.bipush (-2), 2) := by decide +kernel
theorem dX12_route_69 : decode cX12_route 69 = .ok (.goto 14, 3) := by decide +kernel
theorem dX12_route_72 : decode cX12_route 72 = .ok (.aload_n 0, 1) := by decide +kernel
theorem dX12_route_73 : decode cX12_route 73 = .ok (.getfield 66, 3) := by decide +kernel
theorem dX12_route_76 : decode cX12_route 76 = .ok (.bipush 12, 2) := by decide +kernel
theorem dX12_route_78 : decode cX12_route 78 = .ok (.iload_n 2, 1) := by decide +kernel
theorem dX12_route_79 : decode cX12_route 79 = .ok (.imul, 1) := by decide +kernel
theorem dX12_route_80 : decode cX12_route 80 = .ok (.iload_n 1, 1) := by decide +kernel
theorem dX12_route_81 : decode cX12_route 81 = .ok (.iadd, 1) := by decide +kernel
theorem dX12_route_82 : decode cX12_route 82 = .ok (.iaload, 1) := by decide +kernel
theorem dX12_route_83 : decode cX12_route 83 = .ok (.ireturn, 1) := by decide +kernel
theorem dX12_steps_0 : decode cX12_steps 0 = .ok (.aload_n 0, 1) := by decide +kernel
theorem dX12_steps_1 : decode cX12_steps 1 = .ok (.iconst 0, 1) := by decide +kernel
theorem dX12_steps_2 : decode cX12_steps 2 = .ok (.putfield 81, 3) := by decide +kernel
theorem dX12_steps_5 : decode cX12_steps 5 = .ok (.aload_n 0, 1) := by decide +kernel
theorem dX12_steps_6 : decode cX12_steps 6 = .ok (.iload_n 1, 1) := by decide +kernel
theorem dX12_steps_7 : decode cX12_steps 7 = .ok (.iload_n 2, 1) := by decide +kernel
theorem dX12_steps_8 : decode cX12_steps 8 = .ok (.invokevirtual 341, 3) := by decide +kernel
theorem dX12_steps_11 : decode cX12_steps 11 = .ok (.ifCond .eq 10, 3) := by decide +kernel
theorem dX12_steps_14 : decode cX12_steps 14 = .ok (.iload_n 3, 1) := by decide +kernel
theorem dX12_steps_15 : decode cX12_steps 15 = .ok (.invokestatic 330, 3) := by decide +kernel
theorem dX12_steps_18 : decode cX12_steps 18 = .ok (.ifCond .ne 5, 3) := by decide +kernel
theorem dX12_steps_21 : decode cX12_steps 21 = .ok (.iconst (-1), 1) := by decide +kernel
theorem dX12_steps_22 : decode cX12_steps 22 = .ok (.ireturn, 1) := by decide +kernel
theorem dX12_steps_23 : decode cX12_steps 23 = .ok (.iconst 1, 1) := by decide +kernel
theorem dX12_steps_24 : decode cX12_steps 24 = .ok (.iload_n 1, 1) := by decide +kernel
theorem dX12_steps_25 : decode cX12_steps 25 = .ok (.ishl, 1) := by decide +kernel
theorem dX12_steps_26 : decode cX12_steps 26 = .ok (.istore 4, 2) := by decide +kernel
theorem dX12_steps_28 : decode cX12_steps 28 = .ok (.iconst 0, 1) := by decide +kernel
theorem dX12_steps_29 : decode cX12_steps 29 = .ok (.istore 5, 2) := by decide +kernel
theorem dX12_steps_31 : decode cX12_steps 31 = .ok (.iload 5, 2) := by decide +kernel
theorem dX12_steps_33 : decode cX12_steps 33 = .ok (.bipush 8, 2) := by decide +kernel
theorem dX12_steps_35 : decode cX12_steps 35 = .ok (.if_icmp .ge 104, 3) := by decide +kernel
theorem dX12_steps_38 : decode cX12_steps 38 = .ok (.iload 4, 2) := by decide +kernel
theorem dX12_steps_40 : decode cX12_steps 40 = .ok (.iload_n 2, 1) := by decide +kernel
theorem dX12_steps_41 : decode cX12_steps 41 = .ok (.ishr, 1) := by decide +kernel
theorem dX12_steps_42 : decode cX12_steps 42 = .ok (.iconst 1, 1) := by decide +kernel
theorem dX12_steps_43 : decode cX12_steps 43 = .ok (.iand, 1) := by decide +kernel
theorem dX12_steps_44 : decode cX12_steps 44 = .ok (.iconst 1, 1) := by decide +kernel
theorem dX12_steps_45 : decode cX12_steps 45 = .ok (.if_icmp .ne 6, 3) := by decide +kernel
theorem dX12_steps_48 : decode cX12_steps 48 = .ok (.iload 5, 2) := by decide +kernel
theorem dX12_steps_50 : decode cX12_steps 50 = .ok (.ireturn, 1) := by decide +kernel
theorem dX12_steps_51 : decode cX12_steps 51 = .ok (.iconst 0, 1) := by decide +kernel
theorem dX12_steps_52 : decode cX12_steps 52 = .ok (.istore 6, 2) := by decide +kernel
theorem dX12_steps_54 : decode cX12_steps 54 = .ok (.iconst 0, 1) := by decide +kernel
theorem dX12_steps_55 : decode cX12_steps 55 = .ok (.istore 7, 2) := by decide +kernel
theorem dX12_steps_57 : decode cX12_steps 57 = .ok (.iload 7, 2) := by decide +kernel
theorem dX12_steps_59 : decode cX12_steps 59 = .ok (.aload_n 0, 1) := by decide +kernel
theorem dX12_steps_60 : decode cX12_steps 60 = .ok (.getfield 132, 3) := by decide +kernel
theorem dX12_steps_63 : decode cX12_steps 63 = .ok (.if_icmp .ge 66, 3) := by decide +kernel
theorem dX12_steps_66 : decode cX12_steps 66 = .ok (.iload 7, 2) := by decide +kernel
theorem dX12_steps_68 : decode cX12_steps 68 = .ok (.iconst 1, 1) := by decide +kernel
theorem dX12_steps_69 : decode cX12_steps 69 = .ok (.iadd, 1) := by decide +kernel
theorem dX12_steps_70 : decode cX12_steps 70 = .ok (.istore 8, 2) := by decide +kernel
theorem dX12_steps_72 : decode cX12_steps 72 = .ok (.iload 8, 2) := by decide +kernel
theorem dX12_steps_74 : decode cX12_steps 74 = .ok (.aload_n 0, 1) := by decide +kernel
theorem dX12_steps_75 : decode cX12_steps 75 = .ok (.getfield 132, 3) := by decide +kernel
theorem dX12_steps_78 : decode cX12_steps 78 = .ok (.if_icmp .ge 45, 3) := by decide +kernel
theorem dX12_steps_81 : decode cX12_steps 81 = .ok (.iload 6, 2) := by decide +kernel
theorem dX12_steps_83 : decode cX12_steps 83 = .ok (.iload 4, 2) := by decide +kernel
theorem dX12_steps_85 : decode cX12_steps 85 = .ok (.iload 7, 2) := by decide +kernel
theorem dX12_steps_87 : decode cX12_steps 87 = .ok (.ishr, 1) := by decide +kernel
theorem dX12_steps_88 : decode cX12_steps 88 = .ok (.iconst 1, 1) := by decide +kernel
theorem dX12_steps_89 : decode cX12_steps 89 = .ok (.iand, 1) := by decide +kernel
theorem dX12_steps_90 : decode cX12_steps 90 = .ok (.iconst 1, 1) := by decide +kernel
theorem dX12_steps_91 : decode cX12_steps 91 = .ok (.if_icmp .ne 22, 3) := by decide +kernel
theorem dX12_steps_94 : decode cX12_steps 94 = .ok (.aload_n 0, 1) := by decide +kernel
theorem dX12_steps_95 : decode cX12_steps 95 = .ok (.iload 7, 2) := by decide +kernel
theorem dX12_steps_97 : decode cX12_steps 97 = .ok (.iload 8, 2) := by decide +kernel
theorem dX12_steps_99 : decode cX12_steps 99 = .ok (.iload_n 3, 1) := by decide +kernel
theorem dX12_steps_100 : decode cX12_steps 100 = .ok (.invokevirtual 213, 3) := by decide +kernel
theorem dX12_steps_103 : decode cX12_steps 103 = .ok (.ifCond .le 10, 3) := by decide +kernel
theorem dX12_steps_106 : decode cX12_steps 106 = .ok (.iconst 1, 1) := by decide +kernel
theorem dX12_steps_107 : decode cX12_steps 107 = .ok (.iload 8, 2) := by decide +kernel
theorem dX12_steps_109 : decode cX12_steps 109 = .ok (.ishl, 1) := by decide +kernel
theorem dX12_steps_110 : decode cX12_steps 110 = .ok (.goto 4, 3) := by decide +kernel
theorem dX12_steps_113 : decode cX12_steps 113 = .ok (.iconst 0, 1) := by decide +kernel
theorem dX12_steps_114 : decode cX12_steps 114 = .ok (.ior, 1) := by decide +kernel
theorem dX12_steps_115 : decode cX12_steps 115 = .ok (.istore 6, 2) := by decide +kernel
theorem dX12_steps_117 : decode cX12_steps 117 = .ok (.iinc 8 1, 3) := by decide +kernel
theorem dX12_steps_120 : decode cX12_steps 120 = .ok (.goto (-48), 3) := by decide +kernel
theorem dX12_steps_123 : decode cX12_steps 123 = .ok (.iinc 7 1, 3) := by decide +kernel
theorem dX12_steps_126 : decode cX12_steps 126 = .ok (.goto (-69), 3) := by decide +kernel
theorem dX12_steps_129 : decode cX12_steps 129 = .ok (.iload 6, 2) := by decide +kernel
theorem dX12_steps_131 : decode cX12_steps 131 = .ok (.istore 4, 2) := by decide +kernel
theorem dX12_steps_133 : decode cX12_steps 133 = .ok (.iinc 5 1, 3) := by decide +kernel
theorem dX12_steps_136 : decode cX12_steps 136 = .ok (.goto (-105), 3) := by decide +kernel
theorem dX12_steps_139 : decode cX12_steps 139 = .ok (.bipush (-2), 2) := by decide +kernel
theorem dX12_steps_141 : decode cX12_steps 141 = .ok (.ireturn, 1) := by decide +kernel
theorem dX12_byGateOf_0 : decode cX12_byGateOf 0 = .ok (.aload_n 0, 1) := by decide +kernel
theorem dX12_byGateOf_1 : decode cX12_byGateOf 1 = .ok (.iload_n 1, 1) := by decide +kernel
theorem dX12_byGateOf_2 : decode cX12_byGateOf 2 = .ok (.iconst 0, 1) := by decide +kernel
theorem dX12_byGateOf_3 : decode cX12_byGateOf 3 = .ok (.invokevirtual 299, 3) := by decide +kernel
theorem dX12_byGateOf_6 : decode cX12_byGateOf 6 = .ok (.aload_n 0, 1) := by decide +kernel
theorem dX12_byGateOf_7 : decode cX12_byGateOf 7 = .ok (.invokevirtual 303, 3) := by decide +kernel
theorem dX12_byGateOf_10 : decode cX12_byGateOf 10 = .ok (.ireturn, 1) := by decide +kernel
theorem dX12_byGate_0 : decode cX12_byGate 0 = .ok (.aload_n 0, 1) := by decide +kernel
theorem dX12_byGate_1 : decode cX12_byGate 1 = .ok (.iconst 0, 1) := by decide +kernel
theorem dX12_byGate_2 : decode cX12_byGate 2 = .ok (.putfield 81, 3) := by decide +kernel
theorem dX12_byGate_5 : decode cX12_byGate 5 = .ok (.iload_n 1, 1) := by decide +kernel
theorem dX12_byGate_6 : decode cX12_byGate 6 = .ok (.iconst 1, 1) := by decide +kernel
theorem dX12_byGate_7 : decode cX12_byGate 7 = .ok (.bipush 100, 2) := by decide +kernel
theorem dX12_byGate_9 : decode cX12_byGate 9 = .ok (.invokestatic 165, 3) := by decide +kernel
theorem dX12_byGate_12 : decode cX12_byGate 12 = .ok (.ifCond .eq 11, 3) := by decide +kernel
theorem dX12_byGate_15 : decode cX12_byGate 15 = .ok (.aload_n 0, 1) := by decide +kernel
theorem dX12_byGate_16 : decode cX12_byGate 16 = .ok (.iload_n 1, 1) := by decide +kernel
theorem dX12_byGate_17 : decode cX12_byGate 17 = .ok (.invokevirtual 375, 3) := by decide +kernel
theorem dX12_byGate_20 : decode cX12_byGate 20 = .ok (.goto 4, 3) := by decide +kernel
theorem dX12_byGate_23 : decode cX12_byGate 23 = .ok (.iconst (-1), 1) := by decide +kernel
theorem dX12_byGate_24 : decode cX12_byGate 24 = .ok (.ireturn, 1) := by decide +kernel
theorem dX12_gateFor_0 : decode cX12_gateFor 0 = .ok (.aload_n 0, 1) := by decide +kernel
theorem dX12_gateFor_1 : decode cX12_gateFor 1 = .ok (.iconst 0, 1) := by decide +kernel
theorem dX12_gateFor_2 : decode cX12_gateFor 2 = .ok (.putfield 81, 3) := by decide +kernel
theorem dX12_gateFor_5 : decode cX12_gateFor 5 = .ok (.iload_n 1, 1) := by decide +kernel
theorem dX12_gateFor_6 : decode cX12_gateFor 6 = .ok (.iconst 0, 1) := by decide +kernel
theorem dX12_gateFor_7 : decode cX12_gateFor 7 = .ok (.ldc_w 378, 3) := by decide +kernel
theorem dX12_gateFor_10 : decode cX12_gateFor 10 = .ok (.invokestatic 165, 3) := by decide +kernel
theorem dX12_gateFor_13 : decode cX12_gateFor 13 = .ok (.ifCond .ne 5, 3) := by decide +kernel
theorem dX12_gateFor_16 : decode cX12_gateFor 16 = .ok (.iconst (-1), 1) := by decide +kernel
theorem dX12_gateFor_17 : decode cX12_gateFor 17 = .ok (.ireturn, 1) := by decide +kernel
theorem dX12_gateFor_18 : decode cX12_gateFor 18 = .ok (.bipush 100, 2) := by decide +kernel
theorem dX12_gateFor_20 : decode cX12_gateFor 20 = .ok (.istore_n 2, 1) := by decide +kernel
theorem dX12_gateFor_21 : decode cX12_gateFor 21 = .ok (.iload_n 2, 1) := by decide +kernel
theorem dX12_gateFor_22 : decode cX12_gateFor 22 = .ok (.ifCond .le 20, 3) := by decide +kernel
theorem dX12_gateFor_25 : decode cX12_gateFor 25 = .ok (.aload_n 0, 1) := by decide +kernel
theorem dX12_gateFor_26 : decode cX12_gateFor 26 = .ok (.iload_n 2, 1) := by decide +kernel
theorem dX12_gateFor_27 : decode cX12_gateFor 27 = .ok (.invokevirtual 375, 3) := by decide +kernel
theorem dX12_gateFor_30 : decode cX12_gateFor 30 = .ok (.iload_n 1, 1) := by decide +kernel
theorem dX12_gateFor_31 : decode cX12_gateFor 31 = .ok (.if_icmp .lt 5, 3) := by decide +kernel
theorem dX12_gateFor_34 : decode cX12_gateFor 34 = .ok (.iload_n 2, 1) := by decide +kernel
theorem dX12_gateFor_35 : decode cX12_gateFor 35 = .ok (.ireturn, 1) := by decide +kernel
theorem dX12_gateFor_36 : decode cX12_gateFor 36 = .ok (.iinc 2 (-1), 3) := by decide +kernel
theorem dX12_gateFor_39 : decode cX12_gateFor 39 = .ok (.goto (-18), 3) := by decide +kernel
theorem dX12_gateFor_42 : decode cX12_gateFor 42 = .ok (.bipush (-2), 2) := by decide +kernel
theorem dX12_gateFor_44 : decode cX12_gateFor 44 = .ok (.ireturn, 1) := by decide +kernel
theorem dX12_days_0 : decode cX12_days 0 = .ok (.aload_n 0, 1) := by decide +kernel
theorem dX12_days_1 : decode cX12_days 1 = .ok (.iconst 0, 1) := by decide +kernel
theorem dX12_days_2 : decode cX12_days 2 = .ok (.putfield 81, 3) := by decide +kernel
theorem dX12_days_5 : decode cX12_days 5 = .ok (.aload_n 0, 1) := by decide +kernel
theorem dX12_days_6 : decode cX12_days 6 = .ok (.iload_n 1, 1) := by decide +kernel
theorem dX12_days_7 : decode cX12_days 7 = .ok (.iload_n 2, 1) := by decide +kernel
theorem dX12_days_8 : decode cX12_days 8 = .ok (.invokevirtual 341, 3) := by decide +kernel
theorem dX12_days_11 : decode cX12_days 11 = .ok (.ifCond .eq 17, 3) := by decide +kernel
theorem dX12_days_14 : decode cX12_days 14 = .ok (.iload_n 1, 1) := by decide +kernel
theorem dX12_days_15 : decode cX12_days 15 = .ok (.iload_n 2, 1) := by decide +kernel
theorem dX12_days_16 : decode cX12_days 16 = .ok (.if_icmp .eq 12, 3) := by decide +kernel
theorem dX12_days_19 : decode cX12_days 19 = .ok (.iload_n 3, 1) := by decide +kernel
theorem dX12_days_20 : decode cX12_days 20 = .ok (.iconst 0, 1) := by decide +kernel
theorem dX12_days_21 : decode cX12_days 21 = .ok (.iconst 2, 1) := by decide +kernel
theorem dX12_days_22 : decode cX12_days 22 = .ok (.invokestatic 165, 3) := by decide +kernel
theorem dX12_days_25 : decode cX12_days 25 = .ok (.ifCond .ne 5, 3) := by decide +kernel
theorem dX12_days_28 : decode cX12_days 28 = .ok (.iconst (-1), 1) := by decide +kernel
theorem dX12_days_29 : decode cX12_days 29 = .ok (.ireturn, 1) := by decide +kernel
theorem dX12_days_30 : decode cX12_days 30 = .ok (.aload_n 0, 1) := by decide +kernel
theorem dX12_days_31 : decode cX12_days 31 = .ok (.aload_n 0, 1) := by decide +kernel
theorem dX12_days_32 : decode cX12_days 32 = .ok (.getfield 29, 3) := by decide +kernel
theorem dX12_days_35 : decode cX12_days 35 = .ok (.iconst 0, 1) := by decide +kernel
theorem dX12_days_36 : decode cX12_days 36 = .ok (.iaload, 1) := by decide +kernel
theorem dX12_days_37 : decode cX12_days 37 = .ok (.invokevirtual 261, 3) := by decide +kernel
theorem dX12_days_40 : decode cX12_days 40 = .ok (.iload_n 3, 1) := by decide +kernel
theorem dX12_days_41 : decode cX12_days 41 = .ok (.iconst 2, 1) := by decide +kernel
theorem dX12_days_42 : decode cX12_days 42 = .ok (.if_icmp .ne 14, 3) := by decide +kernel
theorem dX12_days_45 : decode cX12_days 45 = .ok (.aload_n 0, 1) := by decide +kernel
theorem dX12_days_46 : decode cX12_days 46 = .ok (.iload_n 1, 1) := by decide +kernel
theorem dX12_days_47 : decode cX12_days 47 = .ok (.iload_n 2, 1) := by decide +kernel
theorem dX12_days_48 : decode cX12_days 48 = .ok (.iconst 0, 1) := by decide +kernel
theorem dX12_days_49 : decode cX12_days 49 = .ok (.sipush 999, 3) := by decide +kernel
theorem dX12_days_52 : decode cX12_days 52 = .ok (.invokevirtual 242, 3) := by decide +kernel
theorem dX12_days_55 : decode cX12_days 55 = .ok (.ireturn, 1) := by decide +kernel
theorem dX12_days_56 : decode cX12_days 56 = .ok (.bipush (-2), 2) := by decide +kernel
theorem dX12_days_58 : decode cX12_days 58 = .ok (.istore 4, 2) := by decide +kernel
theorem dX12_days_60 : decode cX12_days 60 = .ok (.iconst 0, 1) := by decide +kernel
theorem dX12_days_61 : decode cX12_days 61 = .ok (.istore 5, 2) := by decide +kernel
theorem dX12_days_63 : decode cX12_days 63 = .ok (.iload 5, 2) := by decide +kernel
theorem dX12_days_65 : decode cX12_days 65 = .ok (.aload_n 0, 1) := by decide +kernel
theorem dX12_days_66 : decode cX12_days 66 = .ok (.getfield 220, 3) := by decide +kernel
theorem dX12_days_69 : decode cX12_days 69 = .ok (.if_icmp .ge 66, 3) := by decide +kernel
theorem dX12_days_72 : decode cX12_days 72 = .ok (.aload_n 0, 1) := by decide +kernel
theorem dX12_days_73 : decode cX12_days 73 = .ok (.getfield 42, 3) := by decide +kernel
theorem dX12_days_76 : decode cX12_days 76 = .ok (.bipush 8, 2) := by decide +kernel
theorem dX12_days_78 : decode cX12_days 78 = .ok (.iload 5, 2) := by decide +kernel
theorem dX12_days_80 : decode cX12_days 80 = .ok (.imul, 1) := by decide +kernel
theorem dX12_days_81 : decode cX12_days 81 = .ok (.iload_n 1, 1) := by decide +kernel
theorem dX12_days_82 : decode cX12_days 82 = .ok (.iadd, 1) := by decide +kernel
theorem dX12_days_83 : decode cX12_days 83 = .ok (.iaload, 1) := by decide +kernel
theorem dX12_days_84 : decode cX12_days 84 = .ok (.iload_n 2, 1) := by decide +kernel
theorem dX12_days_85 : decode cX12_days 85 = .ok (.ishr, 1) := by decide +kernel
theorem dX12_days_86 : decode cX12_days 86 = .ok (.iconst 1, 1) := by decide +kernel
theorem dX12_days_87 : decode cX12_days 87 = .ok (.iand, 1) := by decide +kernel
theorem dX12_days_88 : decode cX12_days 88 = .ok (.ifCond .ne 6, 3) := by decide +kernel
theorem dX12_days_91 : decode cX12_days 91 = .ok (.goto 38, 3) := by decide +kernel
theorem dX12_days_94 : decode cX12_days 94 = .ok (.iload_n 3, 1) := by decide +kernel
theorem dX12_days_95 : decode cX12_days 95 = .ok (.iconst 1, 1) := by decide +kernel
theorem dX12_days_96 : decode cX12_days 96 = .ok (.if_icmp .ne 19, 3) := by decide +kernel
theorem dX12_days_99 : decode cX12_days 99 = .ok (.aload_n 0, 1) := by decide +kernel
theorem dX12_days_100 : decode cX12_days 100 = .ok (.getfield 39, 3) := by decide +kernel
theorem dX12_days_103 : decode cX12_days 103 = .ok (.iload 5, 2) := by decide +kernel
theorem dX12_days_105 : decode cX12_days 105 = .ok (.iconst 1, 1) := by decide +kernel
theorem dX12_days_106 : decode cX12_days 106 = .ok (.iadd, 1) := by decide +kernel
theorem dX12_days_107 : decode cX12_days 107 = .ok (.iaload, 1) := by decide +kernel
theorem dX12_days_108 : decode cX12_days 108 = .ok (.iconst 1, 1) := by decide +kernel
theorem dX12_days_109 : decode cX12_days 109 = .ok (.isub, 1) := by decide +kernel
theorem dX12_days_110 : decode cX12_days 110 = .ok (.istore 4, 2) := by decide +kernel
theorem dX12_days_112 : decode cX12_days 112 = .ok (.goto 17, 3) := by decide +kernel
theorem dX12_days_115 : decode cX12_days 115 = .ok (.iload 4, 2) := by decide +kernel
theorem dX12_days_117 : decode cX12_days 117 = .ok (.ifCond .ge 12, 3) := by decide +kernel
theorem dX12_days_120 : decode cX12_days 120 = .ok (.aload_n 0, 1) := by decide +kernel
theorem dX12_days_121 : decode cX12_days 121 = .ok (.getfield 39, 3) := by decide +kernel
theorem dX12_days_124 : decode cX12_days 124 = .ok (.iload 5, 2) := by decide +kernel
theorem dX12_days_126 : decode cX12_days 126 = .ok (.iaload, 1) := by decide +kernel
theorem dX12_days_127 : decode cX12_days 127 = .ok (.istore 4, 2) := by decide +kernel
theorem dX12_days_129 : decode cX12_days 129 = .ok (.iinc 5 1, 3) := by decide +kernel
theorem dX12_days_132 : decode cX12_days 132 = .ok (.goto (-69), 3) := by decide +kernel
theorem dX12_days_135 : decode cX12_days 135 = .ok (.iload 4, 2) := by decide +kernel
theorem dX12_days_137 : decode cX12_days 137 = .ok (.ireturn, 1) := by decide +kernel
theorem dX12_ifFirst_0 : decode cX12_ifFirst 0 = .ok (.aload_n 0, 1) := by decide +kernel
theorem dX12_ifFirst_1 : decode cX12_ifFirst 1 = .ok (.iconst 0, 1) := by decide +kernel
theorem dX12_ifFirst_2 : decode cX12_ifFirst 2 = .ok (.putfield 81, 3) := by decide +kernel
theorem dX12_ifFirst_5 : decode cX12_ifFirst 5 = .ok (.aload_n 0, 1) := by decide +kernel
theorem dX12_ifFirst_6 : decode cX12_ifFirst 6 = .ok (.iload_n 1, 1) := by decide +kernel
theorem dX12_ifFirst_7 : decode cX12_ifFirst 7 = .ok (.invokevirtual 246, 3) := by decide +kernel
theorem dX12_ifFirst_10 : decode cX12_ifFirst 10 = .ok (.ifCond .eq 16, 3) := by decide +kernel
theorem dX12_ifFirst_13 : decode cX12_ifFirst 13 = .ok (.iload_n 2, 1) := by decide +kernel
theorem dX12_ifFirst_14 : decode cX12_ifFirst 14 = .ok (.iconst 0, 1) := by decide +kernel
theorem dX12_ifFirst_15 : decode cX12_ifFirst 15 = .ok (.aload_n 0, 1) := by decide +kernel
theorem dX12_ifFirst_16 : decode cX12_ifFirst 16 = .ok (.iload_n 1, 1) := by decide +kernel
theorem dX12_ifFirst_17 : decode cX12_ifFirst 17 = .ok (.invokevirtual 236, 3) := by decide +kernel
theorem dX12_ifFirst_20 : decode cX12_ifFirst 20 = .ok (.invokestatic 165, 3) := by decide +kernel
theorem dX12_ifFirst_23 : decode cX12_ifFirst 23 = .ok (.ifCond .ne 5, 3) := by decide +kernel
theorem dX12_ifFirst_26 : decode cX12_ifFirst 26 = .ok (.iconst (-1), 1) := by decide +kernel
theorem dX12_ifFirst_27 : decode cX12_ifFirst 27 = .ok (.ireturn, 1) := by decide +kernel
theorem dX12_ifFirst_28 : decode cX12_ifFirst 28 = .ok (.iconst 0, 1) := by decide +kernel
theorem dX12_ifFirst_29 : decode cX12_ifFirst 29 = .ok (.istore_n 3, 1) := by decide +kernel
theorem dX12_ifFirst_30 : decode cX12_ifFirst 30 = .ok (.iload_n 3, 1) := by decide +kernel
theorem dX12_ifFirst_31 : decode cX12_ifFirst 31 = .ok (.aload_n 0, 1) := by decide +kernel
theorem dX12_ifFirst_32 : decode cX12_ifFirst 32 = .ok (.getfield 135, 3) := by decide +kernel
theorem dX12_ifFirst_35 : decode cX12_ifFirst 35 = .ok (.if_icmp .ge 52, 3) := by decide +kernel
theorem dX12_ifFirst_38 : decode cX12_ifFirst 38 = .ok (.iload_n 3, 1) := by decide +kernel
theorem dX12_ifFirst_39 : decode cX12_ifFirst 39 = .ok (.iload_n 1, 1) := by decide +kernel
theorem dX12_ifFirst_40 : decode cX12_ifFirst 40 = .ok (.if_icmp .eq 41, 3) := by decide +kernel
theorem dX12_ifFirst_43 : decode cX12_ifFirst 43 = .ok (.aload_n 0, 1) := by decide +kernel
theorem dX12_ifFirst_44 : decode cX12_ifFirst 44 = .ok (.iload_n 3, 1) := by decide +kernel
theorem dX12_ifFirst_45 : decode cX12_ifFirst 45 = .ok (.invokevirtual 239, 3) := by decide +kernel
theorem dX12_ifFirst_48 : decode cX12_ifFirst 48 = .ok (.aload_n 0, 1) := by decide +kernel
theorem dX12_ifFirst_49 : decode cX12_ifFirst 49 = .ok (.iload_n 1, 1) := by decide +kernel
theorem dX12_ifFirst_50 : decode cX12_ifFirst 50 = .ok (.invokevirtual 239, 3) := by decide +kernel
theorem dX12_ifFirst_53 : decode cX12_ifFirst 53 = .ok (.if_icmp .ne 28, 3) := by decide +kernel
theorem dX12_ifFirst_56 : decode cX12_ifFirst 56 = .ok (.aload_n 0, 1) := by decide +kernel
theorem dX12_ifFirst_57 : decode cX12_ifFirst 57 = .ok (.iload_n 3, 1) := by decide +kernel
theorem dX12_ifFirst_58 : decode cX12_ifFirst 58 = .ok (.invokevirtual 233, 3) := by decide +kernel
theorem dX12_ifFirst_61 : decode cX12_ifFirst 61 = .ok (.aload_n 0, 1) := by decide +kernel
theorem dX12_ifFirst_62 : decode cX12_ifFirst 62 = .ok (.iload_n 1, 1) := by decide +kernel
theorem dX12_ifFirst_63 : decode cX12_ifFirst 63 = .ok (.invokevirtual 236, 3) := by decide +kernel
theorem dX12_ifFirst_66 : decode cX12_ifFirst 66 = .ok (.if_icmp .gt 15, 3) := by decide +kernel
theorem dX12_ifFirst_69 : decode cX12_ifFirst 69 = .ok (.iload_n 2, 1) := by decide +kernel
theorem dX12_ifFirst_70 : decode cX12_ifFirst 70 = .ok (.aload_n 0, 1) := by decide +kernel
theorem dX12_ifFirst_71 : decode cX12_ifFirst 71 = .ok (.iload_n 3, 1) := by decide +kernel
theorem dX12_ifFirst_72 : decode cX12_ifFirst 72 = .ok (.invokevirtual 236, 3) := by decide +kernel
theorem dX12_ifFirst_75 : decode cX12_ifFirst 75 = .ok (.if_icmp .gt 6, 3) := by decide +kernel
theorem dX12_ifFirst_78 : decode cX12_ifFirst 78 = .ok (.bipush (-2), 2) := by decide +kernel
theorem dX12_ifFirst_80 : decode cX12_ifFirst 80 = .ok (.ireturn, 1) := by decide +kernel
theorem dX12_ifFirst_81 : decode cX12_ifFirst 81 = .ok (.iinc 3 1, 3) := by decide +kernel
theorem dX12_ifFirst_84 : decode cX12_ifFirst 84 = .ok (.goto (-54), 3) := by decide +kernel
theorem dX12_ifFirst_87 : decode cX12_ifFirst 87 = .ok (.aload_n 0, 1) := by decide +kernel
theorem dX12_ifFirst_88 : decode cX12_ifFirst 88 = .ok (.iload_n 1, 1) := by decide +kernel
theorem dX12_ifFirst_89 : decode cX12_ifFirst 89 = .ok (.putfield 45, 3) := by decide +kernel
theorem dX12_ifFirst_92 : decode cX12_ifFirst 92 = .ok (.aload_n 0, 1) := by decide +kernel
theorem dX12_ifFirst_93 : decode cX12_ifFirst 93 = .ok (.iload_n 2, 1) := by decide +kernel
theorem dX12_ifFirst_94 : decode cX12_ifFirst 94 = .ok (.putfield 230, 3) := by decide +kernel
theorem dX12_ifFirst_97 : decode cX12_ifFirst 97 = .ok (.aload_n 0, 1) := by decide +kernel
theorem dX12_ifFirst_98 : decode cX12_ifFirst 98 = .ok (.aload_n 0, 1) := by decide +kernel
theorem dX12_ifFirst_99 : decode cX12_ifFirst 99 = .ok (.getfield 29, 3) := by decide +kernel
theorem dX12_ifFirst_102 : decode cX12_ifFirst 102 = .ok (.iconst 0, 1) := by decide +kernel
theorem dX12_ifFirst_103 : decode cX12_ifFirst 103 = .ok (.iaload, 1) := by decide +kernel
theorem dX12_ifFirst_104 : decode cX12_ifFirst 104 = .ok (.iconst 0, 1) := by decide +kernel
theorem dX12_ifFirst_105 : decode cX12_ifFirst 105 = .ok (.invokevirtual 299, 3) := by decide +kernel
theorem dX12_ifFirst_108 : decode cX12_ifFirst 108 = .ok (.aload_n 0, 1) := by decide +kernel
theorem dX12_ifFirst_109 : decode cX12_ifFirst 109 = .ok (.iconst (-1), 1) := by decide +kernel
theorem dX12_ifFirst_110 : decode cX12_ifFirst 110 = .ok (.putfield 45, 3) := by decide +kernel
theorem dX12_ifFirst_113 : decode cX12_ifFirst 113 = .ok (.aload_n 0, 1) := by decide +kernel
theorem dX12_ifFirst_114 : decode cX12_ifFirst 114 = .ok (.invokevirtual 303, 3) := by decide +kernel
theorem dX12_ifFirst_117 : decode cX12_ifFirst 117 = .ok (.ireturn, 1) := by decide +kernel
theorem dX12_dearest_0 : decode cX12_dearest 0 = .ok (.aload_n 0, 1) := by decide +kernel
theorem dX12_dearest_1 : decode cX12_dearest 1 = .ok (.iconst 0, 1) := by decide +kernel
theorem dX12_dearest_2 : decode cX12_dearest 2 = .ok (.putfield 81, 3) := by decide +kernel
theorem dX12_dearest_5 : decode cX12_dearest 5 = .ok (.aload_n 0, 1) := by decide +kernel
theorem dX12_dearest_6 : decode cX12_dearest 6 = .ok (.invokevirtual 324, 3) := by decide +kernel
theorem dX12_dearest_9 : decode cX12_dearest 9 = .ok (.pop, 1) := by decide +kernel
theorem dX12_dearest_10 : decode cX12_dearest 10 = .ok (.iconst (-1), 1) := by decide +kernel
theorem dX12_dearest_11 : decode cX12_dearest 11 = .ok (.istore_n 1, 1) := by decide +kernel
theorem dX12_dearest_12 : decode cX12_dearest 12 = .ok (.iconst 0, 1) := by decide +kernel
theorem dX12_dearest_13 : decode cX12_dearest 13 = .ok (.istore_n 2, 1) := by decide +kernel
theorem dX12_dearest_14 : decode cX12_dearest 14 = .ok (.iload_n 2, 1) := by decide +kernel
theorem dX12_dearest_15 : decode cX12_dearest 15 = .ok (.sipush 144, 3) := by decide +kernel
theorem dX12_dearest_18 : decode cX12_dearest 18 = .ok (.if_icmp .ge 54, 3) := by decide +kernel
theorem dX12_dearest_21 : decode cX12_dearest 21 = .ok (.aload_n 0, 1) := by decide +kernel
theorem dX12_dearest_22 : decode cX12_dearest 22 = .ok (.getfield 54, 3) := by decide +kernel
theorem dX12_dearest_25 : decode cX12_dearest 25 = .ok (.iload_n 2, 1) := by decide +kernel
theorem dX12_dearest_26 : decode cX12_dearest 26 = .ok (.iaload, 1) := by decide +kernel
theorem dX12_dearest_27 : decode cX12_dearest 27 = .ok (.ifCond .ne 6, 3) := by decide +kernel
theorem dX12_dearest_30 : decode cX12_dearest 30 = .ok (.goto 36, 3) := by decide +kernel
theorem dX12_dearest_33 : decode cX12_dearest 33 = .ok (.iload_n 1, 1) := by decide +kernel
theorem dX12_dearest_34 : decode cX12_dearest 34 = .ok (.ifCond .lt 30, 3) := by decide +kernel
theorem dX12_dearest_37 : decode cX12_dearest 37 = .ok (.aload_n 0, 1) := by decide +kernel
theorem dX12_dearest_38 : decode cX12_dearest 38 = .ok (.iload_n 2, 1) := by decide +kernel
theorem dX12_dearest_39 : decode cX12_dearest 39 = .ok (.bipush 12, 2) := by decide +kernel
theorem dX12_dearest_41 : decode cX12_dearest 41 = .ok (.idiv, 1) := by decide +kernel
theorem dX12_dearest_42 : decode cX12_dearest 42 = .ok (.iload_n 2, 1) := by decide +kernel
theorem dX12_dearest_43 : decode cX12_dearest 43 = .ok (.bipush 12, 2) := by decide +kernel
theorem dX12_dearest_45 : decode cX12_dearest 45 = .ok (.irem, 1) := by decide +kernel
theorem dX12_dearest_46 : decode cX12_dearest 46 = .ok (.invokevirtual 280, 3) := by decide +kernel
theorem dX12_dearest_49 : decode cX12_dearest 49 = .ok (.aload_n 0, 1) := by decide +kernel
theorem dX12_dearest_50 : decode cX12_dearest 50 = .ok (.iload_n 1, 1) := by decide +kernel
theorem dX12_dearest_51 : decode cX12_dearest 51 = .ok (.bipush 12, 2) := by decide +kernel
theorem dX12_dearest_53 : decode cX12_dearest 53 = .ok (.idiv, 1) := by decide +kernel
theorem dX12_dearest_54 : decode cX12_dearest 54 = .ok (.iload_n 1, 1) := by decide +kernel
theorem dX12_dearest_55 : decode cX12_dearest 55 = .ok (.bipush 12, 2) := by decide +kernel
theorem dX12_dearest_57 : decode cX12_dearest 57 = .ok (.irem, 1) := by decide +kernel
theorem dX12_dearest_58 : decode cX12_dearest 58 = .ok (.invokevirtual 280, 3) := by decide +kernel
theorem dX12_dearest_61 : decode cX12_dearest 61 = .ok (.if_icmp .le 5, 3) := by decide +kernel
theorem dX12_dearest_64 : decode cX12_dearest 64 = .ok (.iload_n 2, 1) := by decide +kernel
theorem dX12_dearest_65 : decode cX12_dearest 65 = .ok (.istore_n 1, 1) := by decide +kernel
theorem dX12_dearest_66 : decode cX12_dearest 66 = .ok (.iinc 2 1, 3) := by decide +kernel
theorem dX12_dearest_69 : decode cX12_dearest 69 = .ok (.goto (-55), 3) := by decide +kernel
theorem dX12_dearest_72 : decode cX12_dearest 72 = .ok (.iload_n 1, 1) := by decide +kernel
theorem dX12_dearest_73 : decode cX12_dearest 73 = .ok (.ifCond .ge 8, 3) := by decide +kernel
theorem dX12_dearest_76 : decode cX12_dearest 76 = .ok (.bipush (-2), 2) := by decide +kernel
theorem dX12_dearest_78 : decode cX12_dearest 78 = .ok (.goto 15, 3) := by decide +kernel
theorem dX12_dearest_81 : decode cX12_dearest 81 = .ok (.bipush 16, 2) := by decide +kernel
theorem dX12_dearest_83 : decode cX12_dearest 83 = .ok (.iload_n 1, 1) := by decide +kernel
theorem dX12_dearest_84 : decode cX12_dearest 84 = .ok (.bipush 12, 2) := by decide +kernel
theorem dX12_dearest_86 : decode cX12_dearest 86 = .ok (.idiv, 1) := by decide +kernel
theorem dX12_dearest_87 : decode cX12_dearest 87 = .ok (.imul, 1) := by decide +kernel
theorem dX12_dearest_88 : decode cX12_dearest 88 = .ok (.iload_n 1, 1) := by decide +kernel
theorem dX12_dearest_89 : decode cX12_dearest 89 = .ok (.bipush 12, 2) := by decide +kernel
theorem dX12_dearest_91 : decode cX12_dearest 91 = .ok (.irem, 1) := by decide +kernel
theorem dX12_dearest_92 : decode cX12_dearest 92 = .ok (.iadd, 1) := by decide +kernel
theorem dX12_dearest_93 : decode cX12_dearest 93 = .ok (.ireturn, 1) := by decide +kernel
theorem dX12_draw_0 : decode cX12_draw 0 = .ok (.aload_n 0, 1) := by decide +kernel
theorem dX12_draw_1 : decode cX12_draw 1 = .ok (.aload_n 0, 1) := by decide +kernel
theorem dX12_draw_2 : decode cX12_draw 2 = .ok (.getfield 379, 3) := by decide +kernel
theorem dX12_draw_5 : decode cX12_draw 5 = .ok (.ldc2_w 383, 3) := by decide +kernel
theorem dX12_draw_8 : decode cX12_draw 8 = .ok (.lmul, 1) := by decide +kernel
theorem dX12_draw_9 : decode cX12_draw 9 = .ok (.ldc2_w 385, 3) := by decide +kernel
theorem dX12_draw_12 : decode cX12_draw 12 = .ok (.ladd, 1) := by decide +kernel
theorem dX12_draw_13 : decode cX12_draw 13 = .ok (.ldc2_w 387, 3) := by decide +kernel
theorem dX12_draw_16 : decode cX12_draw 16 = .ok (.land, 1) := by decide +kernel
theorem dX12_draw_17 : decode cX12_draw 17 = .ok (.putfield 379, 3) := by decide +kernel
theorem dX12_draw_20 : decode cX12_draw 20 = .ok (.aload_n 0, 1) := by decide +kernel
theorem dX12_draw_21 : decode cX12_draw 21 = .ok (.getfield 379, 3) := by decide +kernel
theorem dX12_draw_24 : decode cX12_draw 24 = .ok (.ldc2_w 389, 3) := by decide +kernel
theorem dX12_draw_27 : decode cX12_draw 27 = .ok (.ldiv, 1) := by decide +kernel
theorem dX12_draw_28 : decode cX12_draw 28 = .ok (.iload_n 1, 1) := by decide +kernel
theorem dX12_draw_29 : decode cX12_draw 29 = .ok (.i2l, 1) := by decide +kernel
theorem dX12_draw_30 : decode cX12_draw 30 = .ok (.lrem, 1) := by decide +kernel
theorem dX12_draw_31 : decode cX12_draw 31 = .ok (.l2i, 1) := by decide +kernel
theorem dX12_draw_32 : decode cX12_draw 32 = .ok (.ireturn, 1) := by decide +kernel
theorem dX12_chance_0 : decode cX12_chance 0 = .ok (.aload_n 0, 1) := by decide +kernel
theorem dX12_chance_1 : decode cX12_chance 1 = .ok (.iconst 0, 1) := by decide +kernel
theorem dX12_chance_2 : decode cX12_chance 2 = .ok (.putfield 81, 3) := by decide +kernel
theorem dX12_chance_5 : decode cX12_chance 5 = .ok (.iload_n 1, 1) := by decide +kernel
theorem dX12_chance_6 : decode cX12_chance 6 = .ok (.iconst (-1), 1) := by decide +kernel
theorem dX12_chance_7 : decode cX12_chance 7 = .ok (.if_icmp .lt 30, 3) := by decide +kernel
theorem dX12_chance_10 : decode cX12_chance 10 = .ok (.iload_n 2, 1) := by decide +kernel
theorem dX12_chance_11 : decode cX12_chance 11 = .ok (.iconst 1, 1) := by decide +kernel
theorem dX12_chance_12 : decode cX12_chance 12 = .ok (.bipush 60, 2) := by decide +kernel
theorem dX12_chance_14 : decode cX12_chance 14 = .ok (.invokestatic 165, 3) := by decide +kernel
theorem dX12_chance_17 : decode cX12_chance 17 = .ok (.ifCond .eq 20, 3) := by decide +kernel
theorem dX12_chance_20 : decode cX12_chance 20 = .ok (.iload_n 3, 1) := by decide +kernel
theorem dX12_chance_21 : decode cX12_chance 21 = .ok (.iconst 0, 1) := by decide +kernel
theorem dX12_chance_22 : decode cX12_chance 22 = .ok (.iconst 2, 1) := by decide +kernel
theorem dX12_chance_23 : decode cX12_chance 23 = .ok (.invokestatic 165, 3) := by decide +kernel
theorem dX12_chance_26 : decode cX12_chance 26 = .ok (.ifCond .eq 11, 3) := by decide +kernel
theorem dX12_chance_29 : decode cX12_chance 29 = .ok (.aload_n 0, 1) := by decide +kernel
theorem dX12_chance_30 : decode cX12_chance 30 = .ok (.getfield 135, 3) := by decide +kernel
theorem dX12_chance_33 : decode cX12_chance 33 = .ok (.iconst 1, 1) := by decide +kernel
theorem dX12_chance_34 : decode cX12_chance 34 = .ok (.if_icmp .ge 5, 3) := by decide +kernel
theorem dX12_chance_37 : decode cX12_chance 37 = .ok (.iconst (-1), 1) := by decide +kernel
theorem dX12_chance_38 : decode cX12_chance 38 = .ok (.ireturn, 1) := by decide +kernel
theorem dX12_chance_39 : decode cX12_chance 39 = .ok (.aload_n 0, 1) := by decide +kernel
theorem dX12_chance_40 : decode cX12_chance 40 = .ok (.iload_n 1, 1) := by decide +kernel
theorem dX12_chance_41 : decode cX12_chance 41 = .ok (.ifCond .ge 13, 3) := by decide +kernel
theorem dX12_chance_44 : decode cX12_chance 44 = .ok (.aload_n 0, 1) := by decide +kernel
theorem dX12_chance_45 : decode cX12_chance 45 = .ok (.getfield 29, 3) := by decide +kernel
theorem dX12_chance_48 : decode cX12_chance 48 = .ok (.iconst 2, 1) := by decide +kernel
theorem dX12_chance_49 : decode cX12_chance 49 = .ok (.iaload, 1) := by decide +kernel
theorem dX12_chance_50 : decode cX12_chance 50 = .ok (.i2l, 1) := by decide +kernel
theorem dX12_chance_51 : decode cX12_chance 51 = .ok (.goto 5, 3) := by decide +kernel
theorem dX12_chance_54 : decode cX12_chance 54 = .ok (.iload_n 1, 1) := by decide +kernel
theorem dX12_chance_55 : decode cX12_chance 55 = .ok (.i2l, 1) := by decide +kernel
theorem dX12_chance_56 : decode cX12_chance 56 = .ok (.putfield 379, 3) := by decide +kernel
theorem dX12_chance_59 : decode cX12_chance 59 = .ok (.aload_n 0, 1) := by decide +kernel
theorem dX12_chance_60 : decode cX12_chance 60 = .ok (.iconst 0, 1) := by decide +kernel
theorem dX12_chance_61 : decode cX12_chance 61 = .ok (.iconst 1, 1) := by decide +kernel
theorem dX12_chance_62 : decode cX12_chance 62 = .ok (.invokevirtual 206, 3) := by decide +kernel
theorem dX12_chance_65 : decode cX12_chance 65 = .ok (.aload_n 0, 1) := by decide +kernel
theorem dX12_chance_66 : decode cX12_chance 66 = .ok (.iconst 1, 1) := by decide +kernel
theorem dX12_chance_67 : decode cX12_chance 67 = .ok (.putfield 148, 3) := by decide +kernel
theorem dX12_chance_70 : decode cX12_chance 70 = .ok (.aload_n 0, 1) := by decide +kernel
theorem dX12_chance_71 : decode cX12_chance 71 = .ok (.aload_n 0, 1) := by decide +kernel
theorem dX12_chance_72 : decode cX12_chance 72 = .ok (.getfield 29, 3) := by decide +kernel
theorem dX12_chance_75 : decode cX12_chance 75 = .ok (.iconst 0, 1) := by decide +kernel
theorem dX12_chance_76 : decode cX12_chance 76 = .ok (.iaload, 1) := by decide +kernel
theorem dX12_chance_77 : decode cX12_chance 77 = .ok (.invokevirtual 261, 3) := by decide +kernel
theorem dX12_chance_80 : decode cX12_chance 80 = .ok (.iconst 0, 1) := by decide +kernel
theorem dX12_chance_81 : decode cX12_chance 81 = .ok (.istore 4, 2) := by decide +kernel
theorem dX12_chance_83 : decode cX12_chance 83 = .ok (.iconst 0, 1) := by decide +kernel
theorem dX12_chance_84 : decode cX12_chance 84 = .ok (.istore 5, 2) := by decide +kernel
theorem dX12_chance_86 : decode cX12_chance 86 = .ok (.iconst 0, 1) := by decide +kernel
theorem dX12_chance_87 : decode cX12_chance 87 = .ok (.istore 6, 2) := by decide +kernel
theorem dX12_chance_89 : decode cX12_chance 89 = .ok (.iload 6, 2) := by decide +kernel
theorem dX12_chance_91 : decode cX12_chance 91 = .ok (.iload_n 2, 1) := by decide +kernel
theorem dX12_chance_92 : decode cX12_chance 92 = .ok (.if_icmp .ge 97, 3) := by decide +kernel
theorem dX12_chance_95 : decode cX12_chance 95 = .ok (.aload_n 0, 1) := by decide +kernel
theorem dX12_chance_96 : decode cX12_chance 96 = .ok (.aload_n 0, 1) := by decide +kernel
theorem dX12_chance_97 : decode cX12_chance 97 = .ok (.getfield 135, 3) := by decide +kernel
theorem dX12_chance_100 : decode cX12_chance 100 = .ok (.invokevirtual 391, 3) := by decide +kernel
theorem dX12_chance_103 : decode cX12_chance 103 = .ok (.istore 7, 2) := by decide +kernel
theorem dX12_chance_105 : decode cX12_chance 105 = .ok (.aload_n 0, 1) := by decide +kernel
theorem dX12_chance_106 : decode cX12_chance 106 = .ok (.aload_n 0, 1) := by decide +kernel
theorem dX12_chance_107 : decode cX12_chance 107 = .ok (.getfield 135, 3) := by decide +kernel
theorem dX12_chance_110 : decode cX12_chance 110 = .ok (.invokevirtual 391, 3) := by decide +kernel
theorem dX12_chance_113 : decode cX12_chance 113 = .ok (.istore 8, 2) := by decide +kernel
theorem dX12_chance_115 : decode cX12_chance 115 = .ok (.aload_n 0, 1) := by decide +kernel
theorem dX12_chance_116 : decode cX12_chance 116 = .ok (.sipush 1000, 3) := by decide +kernel
theorem dX12_chance_119 : decode cX12_chance 119 = .ok (.invokevirtual 391, 3) := by decide +kernel
theorem dX12_chance_122 : decode cX12_chance 122 = .ok (.iconst 1, 1) := by decide +kernel
theorem dX12_chance_123 : decode cX12_chance 123 = .ok (.iadd, 1) := by decide +kernel
theorem dX12_chance_124 : decode cX12_chance 124 = .ok (.istore 9, 2) := by decide +kernel
theorem dX12_chance_126 : decode cX12_chance 126 = .ok (.aload_n 0, 1) := by decide +kernel
theorem dX12_chance_127 : decode cX12_chance 127 = .ok (.iload 7, 2) := by decide +kernel
theorem dX12_chance_129 : decode cX12_chance 129 = .ok (.iload 8, 2) := by decide +kernel
theorem dX12_chance_131 : decode cX12_chance 131 = .ok (.invokevirtual 267, 3) := by decide +kernel
theorem dX12_chance_134 : decode cX12_chance 134 = .ok (.ifCond .eq 49, 3) := by decide +kernel
theorem dX12_chance_137 : decode cX12_chance 137 = .ok (.aload_n 0, 1) := by decide +kernel
theorem dX12_chance_138 : decode cX12_chance 138 = .ok (.iconst 0, 1) := by decide +kernel
theorem dX12_chance_139 : decode cX12_chance 139 = .ok (.invokevirtual 209, 3) := by decide +kernel
theorem dX12_chance_142 : decode cX12_chance 142 = .ok (.bipush 30, 2) := by decide +kernel
theorem dX12_chance_144 : decode cX12_chance 144 = .ok (.if_icmp .eq 39, 3) := by decide +kernel
theorem dX12_chance_147 : decode cX12_chance 147 = .ok (.aload_n 0, 1) := by decide +kernel
theorem dX12_chance_148 : decode cX12_chance 148 = .ok (.iload 7, 2) := by decide +kernel
theorem dX12_chance_150 : decode cX12_chance 150 = .ok (.iload 8, 2) := by decide +kernel
theorem dX12_chance_152 : decode cX12_chance 152 = .ok (.iload 9, 2) := by decide +kernel
theorem dX12_chance_154 : decode cX12_chance 154 = .ok (.invokevirtual 306, 3) := by decide +kernel
theorem dX12_chance_157 : decode cX12_chance 157 = .ok (.ifCond .ne 6, 3) := by decide +kernel
theorem dX12_chance_160 : decode cX12_chance 160 = .ok (.goto 23, 3) := by decide +kernel
theorem dX12_chance_163 : decode cX12_chance 163 = .ok (.aload_n 0, 1) := by decide +kernel
theorem dX12_chance_164 : decode cX12_chance 164 = .ok (.iload 7, 2) := by decide +kernel
theorem dX12_chance_166 : decode cX12_chance 166 = .ok (.iload 8, 2) := by decide +kernel
theorem dX12_chance_168 : decode cX12_chance 168 = .ok (.iload 9, 2) := by decide +kernel
theorem dX12_chance_170 : decode cX12_chance 170 = .ok (.invokevirtual 312, 3) := by decide +kernel
theorem dX12_chance_173 : decode cX12_chance 173 = .ok (.iinc 4 1, 3) := by decide +kernel
theorem dX12_chance_176 : decode cX12_chance 176 = .ok (.iload 5, 2) := by decide +kernel
theorem dX12_chance_178 : decode cX12_chance 178 = .ok (.iload 9, 2) := by decide +kernel
theorem dX12_chance_180 : decode cX12_chance 180 = .ok (.iadd, 1) := by decide +kernel
theorem dX12_chance_181 : decode cX12_chance 181 = .ok (.istore 5, 2) := by decide +kernel
theorem dX12_chance_183 : decode cX12_chance 183 = .ok (.iinc 6 1, 3) := by decide +kernel
theorem dX12_chance_186 : decode cX12_chance 186 = .ok (.goto (-97), 3) := by decide +kernel
theorem dX12_chance_189 : decode cX12_chance 189 = .ok (.iload_n 3, 1) := by decide +kernel
theorem dX12_chance_190 : decode cX12_chance 190 = .ok (.ifCond .ne 8, 3) := by decide +kernel
theorem dX12_chance_193 : decode cX12_chance 193 = .ok (.iload 4, 2) := by decide +kernel
theorem dX12_chance_195 : decode cX12_chance 195 = .ok (.goto 17, 3) := by decide +kernel
theorem dX12_chance_198 : decode cX12_chance 198 = .ok (.iload_n 3, 1) := by decide +kernel
theorem dX12_chance_199 : decode cX12_chance 199 = .ok (.iconst 1, 1) := by decide +kernel
theorem dX12_chance_200 : decode cX12_chance 200 = .ok (.if_icmp .ne 8, 3) := by decide +kernel
theorem dX12_chance_203 : decode cX12_chance 203 = .ok (.iload 5, 2) := by decide +kernel
theorem dX12_chance_205 : decode cX12_chance 205 = .ok (.goto 7, 3) := by decide +kernel
theorem dX12_chance_208 : decode cX12_chance 208 = .ok (.aload_n 0, 1) := by decide +kernel
theorem dX12_chance_209 : decode cX12_chance 209 = .ok (.invokevirtual 324, 3) := by decide +kernel
theorem dX12_chance_212 : decode cX12_chance 212 = .ok (.istore 6, 2) := by decide +kernel
theorem dX12_chance_214 : decode cX12_chance 214 = .ok (.aload_n 0, 1) := by decide +kernel
theorem dX12_chance_215 : decode cX12_chance 215 = .ok (.iconst 0, 1) := by decide +kernel
theorem dX12_chance_216 : decode cX12_chance 216 = .ok (.putfield 148, 3) := by decide +kernel
theorem dX12_chance_219 : decode cX12_chance 219 = .ok (.iload 6, 2) := by decide +kernel
theorem dX12_chance_221 : decode cX12_chance 221 = .ok (.ireturn, 1) := by decide +kernel
theorem dX12_count_0 : decode cX12_count 0 = .ok (.aload_n 0, 1) := by decide +kernel
theorem dX12_count_1 : decode cX12_count 1 = .ok (.iconst 0, 1) := by decide +kernel
theorem dX12_count_2 : decode cX12_count 2 = .ok (.putfield 81, 3) := by decide +kernel
theorem dX12_count_5 : decode cX12_count 5 = .ok (.iconst 0, 1) := by decide +kernel
theorem dX12_count_6 : decode cX12_count 6 = .ok (.istore_n 2, 1) := by decide +kernel
theorem dX12_count_7 : decode cX12_count 7 = .ok (.iload_n 1, 1) := by decide +kernel
theorem dX12_count_8 : decode cX12_count 8 = .ok (.tableswitch 168 0 10 #[60, 65, 70, 77, 83, 90, 97, 97, 151, 156, 161], 60) := by decide +kernel
theorem dX12_count_68 : decode cX12_count 68 = .ok (.aload_n 0, 1) := by decide +kernel
theorem dX12_count_69 : decode cX12_count 69 = .ok (.getfield 132, 3) := by decide +kernel
theorem dX12_count_72 : decode cX12_count 72 = .ok (.ireturn, 1) := by decide +kernel
theorem dX12_count_73 : decode cX12_count 73 = .ok (.aload_n 0, 1) := by decide +kernel
theorem dX12_count_74 : decode cX12_count 74 = .ok (.getfield 135, 3) := by decide +kernel
theorem dX12_count_77 : decode cX12_count 77 = .ok (.ireturn, 1) := by decide +kernel
theorem dX12_count_78 : decode cX12_count 78 = .ok (.aload_n 0, 1) := by decide +kernel
theorem dX12_count_79 : decode cX12_count 79 = .ok (.bipush 103, 2) := by decide +kernel
theorem dX12_count_81 : decode cX12_count 81 = .ok (.invokevirtual 209, 3) := by decide +kernel
theorem dX12_count_84 : decode cX12_count 84 = .ok (.ireturn, 1) := by decide +kernel
theorem dX12_count_85 : decode cX12_count 85 = .ok (.aload_n 0, 1) := by decide +kernel
theorem dX12_count_86 : decode cX12_count 86 = .ok (.iconst 0, 1) := by decide +kernel
theorem dX12_count_87 : decode cX12_count 87 = .ok (.invokevirtual 209, 3) := by decide +kernel
theorem dX12_count_90 : decode cX12_count 90 = .ok (.ireturn, 1) := by decide +kernel
theorem dX12_count_91 : decode cX12_count 91 = .ok (.aload_n 0, 1) := by decide +kernel
theorem dX12_count_92 : decode cX12_count 92 = .ok (.getfield 29, 3) := by decide +kernel
theorem dX12_count_95 : decode cX12_count 95 = .ok (.iconst 0, 1) := by decide +kernel
theorem dX12_count_96 : decode cX12_count 96 = .ok (.iaload, 1) := by decide +kernel
theorem dX12_count_97 : decode cX12_count 97 = .ok (.ireturn, 1) := by decide +kernel
theorem dX12_count_98 : decode cX12_count 98 = .ok (.aload_n 0, 1) := by decide +kernel
theorem dX12_count_99 : decode cX12_count 99 = .ok (.getfield 29, 3) := by decide +kernel
theorem dX12_count_102 : decode cX12_count 102 = .ok (.iconst 1, 1) := by decide +kernel
theorem dX12_count_103 : decode cX12_count 103 = .ok (.iaload, 1) := by decide +kernel
theorem dX12_count_104 : decode cX12_count 104 = .ok (.ireturn, 1) := by decide +kernel
theorem dX12_count_105 : decode cX12_count 105 = .ok (.iconst 0, 1) := by decide +kernel
theorem dX12_count_106 : decode cX12_count 106 = .ok (.istore_n 3, 1) := by decide +kernel
theorem dX12_count_107 : decode cX12_count 107 = .ok (.iload_n 3, 1) := by decide +kernel
theorem dX12_count_108 : decode cX12_count 108 = .ok (.aload_n 0, 1) := by decide +kernel
theorem dX12_count_109 : decode cX12_count 109 = .ok (.getfield 135, 3) := by decide +kernel
theorem dX12_count_112 : decode cX12_count 112 = .ok (.if_icmp .ge 45, 3) := by decide +kernel
theorem dX12_count_115 : decode cX12_count 115 = .ok (.iload_n 2, 1) := by decide +kernel
theorem dX12_count_116 : decode cX12_count 116 = .ok (.iload_n 1, 1) := by decide +kernel
theorem dX12_count_117 : decode cX12_count 117 = .ok (.bipush 6, 2) := by decide +kernel
theorem dX12_count_119 : decode cX12_count 119 = .ok (.if_icmp .ne 11, 3) := by decide +kernel
theorem dX12_count_122 : decode cX12_count 122 = .ok (.aload_n 0, 1) := by decide +kernel
theorem dX12_count_123 : decode cX12_count 123 = .ok (.iload_n 3, 1) := by decide +kernel
theorem dX12_count_124 : decode cX12_count 124 = .ok (.invokevirtual 249, 3) := by decide +kernel
theorem dX12_count_127 : decode cX12_count 127 = .ok (.ifCond .lt 17, 3) := by decide +kernel
theorem dX12_count_130 : decode cX12_count 130 = .ok (.iload_n 1, 1) := by decide +kernel
theorem dX12_count_131 : decode cX12_count 131 = .ok (.bipush 7, 2) := by decide +kernel
theorem dX12_count_133 : decode cX12_count 133 = .ok (.if_icmp .ne 15, 3) := by decide +kernel
theorem dX12_count_136 : decode cX12_count 136 = .ok (.aload_n 0, 1) := by decide +kernel
theorem dX12_count_137 : decode cX12_count 137 = .ok (.iload_n 3, 1) := by decide +kernel
theorem dX12_count_138 : decode cX12_count 138 = .ok (.invokevirtual 249, 3) := by decide +kernel
theorem dX12_count_141 : decode cX12_count 141 = .ok (.ifCond .le 7, 3) := by decide +kernel
theorem dX12_count_144 : decode cX12_count 144 = .ok (.iconst 1, 1) := by decide +kernel
theorem dX12_count_145 : decode cX12_count 145 = .ok (.goto 4, 3) := by decide +kernel
theorem dX12_count_148 : decode cX12_count 148 = .ok (.iconst 0, 1) := by decide +kernel
theorem dX12_count_149 : decode cX12_count 149 = .ok (.iadd, 1) := by decide +kernel
theorem dX12_count_150 : decode cX12_count 150 = .ok (.istore_n 2, 1) := by decide +kernel
theorem dX12_count_151 : decode cX12_count 151 = .ok (.iinc 3 1, 3) := by decide +kernel
theorem dX12_count_154 : decode cX12_count 154 = .ok (.goto (-47), 3) := by decide +kernel
theorem dX12_count_157 : decode cX12_count 157 = .ok (.iload_n 2, 1) := by decide +kernel
theorem dX12_count_158 : decode cX12_count 158 = .ok (.ireturn, 1) := by decide +kernel
theorem dX12_count_159 : decode cX12_count 159 = .ok (.aload_n 0, 1) := by decide +kernel
theorem dX12_count_160 : decode cX12_count 160 = .ok (.getfield 151, 3) := by decide +kernel
theorem dX12_count_163 : decode cX12_count 163 = .ok (.ireturn, 1) := by decide +kernel
theorem dX12_count_164 : decode cX12_count 164 = .ok (.aload_n 0, 1) := by decide +kernel
theorem dX12_count_165 : decode cX12_count 165 = .ok (.getfield 84, 3) := by decide +kernel
theorem dX12_count_168 : decode cX12_count 168 = .ok (.ireturn, 1) := by decide +kernel
theorem dX12_count_169 : decode cX12_count 169 = .ok (.aload_n 0, 1) := by decide +kernel
theorem dX12_count_170 : decode cX12_count 170 = .ok (.getfield 29, 3) := by decide +kernel
theorem dX12_count_173 : decode cX12_count 173 = .ok (.iconst 3, 1) := by decide +kernel
theorem dX12_count_174 : decode cX12_count 174 = .ok (.iaload, 1) := by decide +kernel
theorem dX12_count_175 : decode cX12_count 175 = .ok (.ireturn, 1) := by decide +kernel
theorem dX12_count_176 : decode cX12_count 176 = .ok (.iconst (-1), 1) := by decide +kernel
theorem dX12_count_177 : decode cX12_count 177 = .ok (.ireturn, 1) := by decide +kernel
theorem dJxf58ca_isNaN_12338_0 : decode cJxf58ca_isNaN_12338 0 = .ok (.fload_n 0, 1) := by decide +kernel
theorem dJxf58ca_isNaN_12338_1 : decode cJxf58ca_isNaN_12338 1 = .ok (.fload_n 0, 1) := by decide +kernel
theorem dJxf58ca_isNaN_12338_2 : decode cJxf58ca_isNaN_12338 2 = .ok (.fcmp .l, 1) := by decide +kernel
theorem dJxf58ca_isNaN_12338_3 : decode cJxf58ca_isNaN_12338 3 = .ok (.ifCond .eq 7, 3) := by decide +kernel
theorem dJxf58ca_isNaN_12338_6 : decode cJxf58ca_isNaN_12338 6 = .ok (.iconst 1, 1) := by decide +kernel
theorem dJxf58ca_isNaN_12338_7 : decode cJxf58ca_isNaN_12338 7 = .ok (.goto 4, 3) := by decide +kernel
theorem dJxf58ca_isNaN_12338_10 : decode cJxf58ca_isNaN_12338 10 = .ok (.iconst 0, 1) := by decide +kernel
theorem dJxf58ca_isNaN_12338_11 : decode cJxf58ca_isNaN_12338 11 = .ok (.ireturn, 1) := by decide +kernel
theorem dJxf58ca_floatToIntBits_5c35a_0 : decode cJxf58ca_floatToIntBits_5c35a 0 = .ok (.fload_n 0, 1) := by decide +kernel
theorem dJxf58ca_floatToIntBits_5c35a_1 : decode cJxf58ca_floatToIntBits_5c35a 1 = .ok (.invokestatic 59, 3) := by decide +kernel
theorem dJxf58ca_floatToIntBits_5c35a_4 : decode cJxf58ca_floatToIntBits_5c35a 4 = .ok (.ifCond .ne 8, 3) := by decide +kernel
theorem dJxf58ca_floatToIntBits_5c35a_7 : decode cJxf58ca_floatToIntBits_5c35a 7 = .ok (.fload_n 0, 1) := by decide +kernel
theorem dJxf58ca_floatToIntBits_5c35a_8 : decode cJxf58ca_floatToIntBits_5c35a 8 = .ok (.invokestatic 74, 3) := by decide +kernel
theorem dJxf58ca_floatToIntBits_5c35a_11 : decode cJxf58ca_floatToIntBits_5c35a 11 = .ok (.ireturn, 1) := by decide +kernel
theorem dJxf58ca_floatToIntBits_5c35a_12 : decode cJxf58ca_floatToIntBits_5c35a 12 = .ok (.ldc 77, 2) := by decide +kernel
theorem dJxf58ca_floatToIntBits_5c35a_14 : decode cJxf58ca_floatToIntBits_5c35a 14 = .ok (.ireturn, 1) := by decide +kernel
theorem dJ9_abs_0f7a4_0 : decode cJ9_abs_0f7a4 0 = .ok (.iload_n 0, 1) := by decide +kernel
theorem dJ9_abs_0f7a4_1 : decode cJ9_abs_0f7a4 1 = .ok (.ifCond .ge 8, 3) := by decide +kernel
theorem dJ9_abs_0f7a4_4 : decode cJ9_abs_0f7a4 4 = .ok (.iload_n 0, 1) := by decide +kernel
theorem dJ9_abs_0f7a4_5 : decode cJ9_abs_0f7a4 5 = .ok (.ineg, 1) := by decide +kernel
theorem dJ9_abs_0f7a4_6 : decode cJ9_abs_0f7a4 6 = .ok (.goto 4, 3) := by decide +kernel
theorem dJ9_abs_0f7a4_9 : decode cJ9_abs_0f7a4 9 = .ok (.iload_n 0, 1) := by decide +kernel
theorem dJ9_abs_0f7a4_10 : decode cJ9_abs_0f7a4 10 = .ok (.ireturn, 1) := by decide +kernel
theorem dJ9_max_7cf53_0 : decode cJ9_max_7cf53 0 = .ok (.iload_n 0, 1) := by decide +kernel
theorem dJ9_max_7cf53_1 : decode cJ9_max_7cf53 1 = .ok (.iload_n 1, 1) := by decide +kernel
theorem dJ9_max_7cf53_2 : decode cJ9_max_7cf53 2 = .ok (.if_icmp .lt 7, 3) := by decide +kernel
theorem dJ9_max_7cf53_5 : decode cJ9_max_7cf53 5 = .ok (.iload_n 0, 1) := by decide +kernel
theorem dJ9_max_7cf53_6 : decode cJ9_max_7cf53 6 = .ok (.goto 4, 3) := by decide +kernel
theorem dJ9_max_7cf53_9 : decode cJ9_max_7cf53 9 = .ok (.iload_n 1, 1) := by decide +kernel
theorem dJ9_max_7cf53_10 : decode cJ9_max_7cf53 10 = .ok (.ireturn, 1) := by decide +kernel
theorem dJ9_min_7cf53_0 : decode cJ9_min_7cf53 0 = .ok (.iload_n 0, 1) := by decide +kernel
theorem dJ9_min_7cf53_1 : decode cJ9_min_7cf53 1 = .ok (.iload_n 1, 1) := by decide +kernel
theorem dJ9_min_7cf53_2 : decode cJ9_min_7cf53 2 = .ok (.if_icmp .gt 7, 3) := by decide +kernel
theorem dJ9_min_7cf53_5 : decode cJ9_min_7cf53 5 = .ok (.iload_n 0, 1) := by decide +kernel
theorem dJ9_min_7cf53_6 : decode cJ9_min_7cf53 6 = .ok (.goto 4, 3) := by decide +kernel
theorem dJ9_min_7cf53_9 : decode cJ9_min_7cf53 9 = .ok (.iload_n 1, 1) := by decide +kernel
theorem dJ9_min_7cf53_10 : decode cJ9_min_7cf53 10 = .ok (.ireturn, 1) := by decide +kernel
