theorem dX0_init_0 : decode cX0_init 0 = .ok (.aload_n 0, 1) := by decide +kernel
theorem dX0_init_1 : decode cX0_init 1 = .ok (.invokespecial 3, 3) := by decide +kernel
theorem dX0_init_4 : decode cX0_init 4 = .ok (.aload_n 0, 1) := by decide +kernel
theorem dX0_init_5 : decode cX0_init 5 = .ok (.bipush 8, 2) := by decide +kernel
theorem dX0_init_7 : decode cX0_init 7 = .ok (.newarray .int, 2) := by decide +kernel
theorem dX0_init_9 : decode cX0_init 9 = .ok (.putfield 9, 3) := by decide +kernel
theorem dX0_init_12 : decode cX0_init 12 = .ok (.aload_n 0, 1) := by decide +kernel
theorem dX0_init_13 : decode cX0_init 13 = .ok (.bipush 8, 2) := by decide +kernel
theorem dX0_init_15 : decode cX0_init 15 = .ok (.newarray .int, 2) := by decide +kernel
theorem dX0_init_17 : decode cX0_init 17 = .ok (.putfield 15, 3) := by decide +kernel
theorem dX0_init_20 : decode cX0_init 20 = .ok (.aload_n 0, 1) := by decide +kernel
theorem dX0_init_21 : decode cX0_init 21 = .ok (.bipush 8, 2) := by decide +kernel
theorem dX0_init_23 : decode cX0_init 23 = .ok (.newarray .int, 2) := by decide +kernel
theorem dX0_init_25 : decode cX0_init 25 = .ok (.putfield 18, 3) := by decide +kernel
theorem dX0_init_28 : decode cX0_init 28 = .ok (.aload_n 0, 1) := by decide +kernel
theorem dX0_init_29 : decode cX0_init 29 = .ok (.bipush 12, 2) := by decide +kernel
theorem dX0_init_31 : decode cX0_init 31 = .ok (.newarray .int, 2) := by decide +kernel
theorem dX0_init_33 : decode cX0_init 33 = .ok (.putfield 21, 3) := by decide +kernel
theorem dX0_init_36 : decode cX0_init 36 = .ok (.aload_n 0, 1) := by decide +kernel
theorem dX0_init_37 : decode cX0_init 37 = .ok (.bipush 12, 2) := by decide +kernel
theorem dX0_init_39 : decode cX0_init 39 = .ok (.newarray .int, 2) := by decide +kernel
theorem dX0_init_41 : decode cX0_init 41 = .ok (.putfield 24, 3) := by decide +kernel
theorem dX0_init_44 : decode cX0_init 44 = .ok (.aload_n 0, 1) := by decide +kernel
theorem dX0_init_45 : decode cX0_init 45 = .ok (.bipush 12, 2) := by decide +kernel
theorem dX0_init_47 : decode cX0_init 47 = .ok (.newarray .int, 2) := by decide +kernel
theorem dX0_init_49 : decode cX0_init 49 = .ok (.putfield 27, 3) := by decide +kernel
theorem dX0_init_52 : decode cX0_init 52 = .ok (.aload_n 0, 1) := by decide +kernel
theorem dX0_init_53 : decode cX0_init 53 = .ok (.bipush 12, 2) := by decide +kernel
theorem dX0_init_55 : decode cX0_init 55 = .ok (.newarray .int, 2) := by decide +kernel
theorem dX0_init_57 : decode cX0_init 57 = .ok (.putfield 30, 3) := by decide +kernel
theorem dX0_init_60 : decode cX0_init 60 = .ok (.aload_n 0, 1) := by decide +kernel
theorem dX0_init_61 : decode cX0_init 61 = .ok (.new 33, 3) := by decide +kernel
theorem dX0_init_64 : decode cX0_init 64 = .ok (.dup, 1) := by decide +kernel
theorem dX0_init_65 : decode cX0_init 65 = .ok (.invokespecial 35, 3) := by decide +kernel
theorem dX0_init_68 : decode cX0_init 68 = .ok (.putfield 36, 3) := by decide +kernel
theorem dX0_init_71 : decode cX0_init 71 = .ok (.aload_n 0, 1) := by decide +kernel
theorem dX0_init_72 : decode cX0_init 72 = .ok (.iconst 0, 1) := by decide +kernel
theorem dX0_init_73 : decode cX0_init 73 = .ok (.putfield 40, 3) := by decide +kernel
theorem dX0_init_76 : decode cX0_init 76 = .ok (.aload_n 0, 1) := by decide +kernel
theorem dX0_init_77 : decode cX0_init 77 = .ok (.iconst 0, 1) := by decide +kernel
theorem dX0_init_78 : decode cX0_init 78 = .ok (.putfield 44, 3) := by decide +kernel
theorem dX0_init_81 : decode cX0_init 81 = .ok (.aload_n 0, 1) := by decide +kernel
theorem dX0_init_82 : decode cX0_init 82 = .ok (.bipush 75, 2) := by decide +kernel
theorem dX0_init_84 : decode cX0_init 84 = .ok (.putfield 47, 3) := by decide +kernel
theorem dX0_init_87 : decode cX0_init 87 = .ok (.aload_n 0, 1) := by decide +kernel
theorem dX0_init_88 : decode cX0_init 88 = .ok (.iconst 0, 1) := by decide +kernel
theorem dX0_init_89 : decode cX0_init 89 = .ok (.putfield 50, 3) := by decide +kernel
theorem dX0_init_92 : decode cX0_init 92 = .ok (.aload_n 0, 1) := by decide +kernel
theorem dX0_init_93 : decode cX0_init 93 = .ok (.iconst 0, 1) := by decide +kernel
theorem dX0_init_94 : decode cX0_init 94 = .ok (.putfield 53, 3) := by decide +kernel
theorem dX0_init_97 : decode cX0_init 97 = .ok (.aload_n 0, 1) := by decide +kernel
theorem dX0_init_98 : decode cX0_init 98 = .ok (.iconst 0, 1) := by decide +kernel
theorem dX0_init_99 : decode cX0_init 99 = .ok (.putfield 56, 3) := by decide +kernel
theorem dX0_init_102 : decode cX0_init 102 = .ok (.return_, 1) := by decide +kernel
theorem dX0_clear_0 : decode cX0_clear 0 = .ok (.aload_n 0, 1) := by decide +kernel
theorem dX0_clear_1 : decode cX0_clear 1 = .ok (.iconst 0, 1) := by decide +kernel
theorem dX0_clear_2 : decode cX0_clear 2 = .ok (.putfield 40, 3) := by decide +kernel
theorem dX0_clear_5 : decode cX0_clear 5 = .ok (.aload_n 0, 1) := by decide +kernel
theorem dX0_clear_6 : decode cX0_clear 6 = .ok (.iconst 0, 1) := by decide +kernel
theorem dX0_clear_7 : decode cX0_clear 7 = .ok (.putfield 44, 3) := by decide +kernel
theorem dX0_clear_10 : decode cX0_clear 10 = .ok (.aload_n 0, 1) := by decide +kernel
theorem dX0_clear_11 : decode cX0_clear 11 = .ok (.getfield 36, 3) := by decide +kernel
theorem dX0_clear_14 : decode cX0_clear 14 = .ok (.iconst 0, 1) := by decide +kernel
theorem dX0_clear_15 : decode cX0_clear 15 = .ok (.putfield 59, 3) := by decide +kernel
theorem dX0_clear_18 : decode cX0_clear 18 = .ok (.aload_n 0, 1) := by decide +kernel
theorem dX0_clear_19 : decode cX0_clear 19 = .ok (.bipush 75, 2) := by decide +kernel
theorem dX0_clear_21 : decode cX0_clear 21 = .ok (.putfield 47, 3) := by decide +kernel
theorem dX0_clear_24 : decode cX0_clear 24 = .ok (.aload_n 0, 1) := by decide +kernel
theorem dX0_clear_25 : decode cX0_clear 25 = .ok (.iconst 0, 1) := by decide +kernel
theorem dX0_clear_26 : decode cX0_clear 26 = .ok (.putfield 50, 3) := by decide +kernel
theorem dX0_clear_29 : decode cX0_clear 29 = .ok (.aload_n 0, 1) := by decide +kernel
theorem dX0_clear_30 : decode cX0_clear 30 = .ok (.iconst 0, 1) := by decide +kernel
theorem dX0_clear_31 : decode cX0_clear 31 = .ok (.putfield 53, 3) := by decide +kernel
theorem dX0_clear_34 : decode cX0_clear 34 = .ok (.aload_n 0, 1) := by decide +kernel
theorem dX0_clear_35 : decode cX0_clear 35 = .ok (.iconst 0, 1) := by decide +kernel
theorem dX0_clear_36 : decode cX0_clear 36 = .ok (.putfield 56, 3) := by decide +kernel
theorem dX0_clear_39 : decode cX0_clear 39 = .ok (.return_, 1) := by decide +kernel
theorem dX0_hasMember_0 : decode cX0_hasMember 0 = .ok (.iload_n 1, 1) := by decide +kernel
theorem dX0_hasMember_1 : decode cX0_hasMember 1 = .ok (.ifCond .lt 15, 3) := by decide +kernel
theorem dX0_hasMember_4 : decode cX0_hasMember 4 = .ok (.iload_n 1, 1) := by decide +kernel
theorem dX0_hasMember_5 : decode cX0_hasMember 5 = .ok (.aload_n 0, 1) := by decide +kernel
theorem dX0_hasMember_6 : decode cX0_hasMember 6 = .ok (.getfield 40, 3) := by decide +kernel
theorem dX0_hasMember_9 : decode cX0_hasMember 9 = .ok (.if_icmp .ge 7, 3) := by decide +kernel
theorem dX0_hasMember_12 : decode cX0_hasMember 12 = .ok (.iconst 1, 1) := by decide +kernel
theorem dX0_hasMember_13 : decode cX0_hasMember 13 = .ok (.goto 4, 3) := by decide +kernel
theorem dX0_hasMember_16 : decode cX0_hasMember 16 = .ok (.iconst 0, 1) := by decide +kernel
theorem dX0_hasMember_17 : decode cX0_hasMember 17 = .ok (.ireturn, 1) := by decide +kernel
theorem dX0_hasPeriod_0 : decode cX0_hasPeriod 0 = .ok (.iload_n 1, 1) := by decide +kernel
theorem dX0_hasPeriod_1 : decode cX0_hasPeriod 1 = .ok (.ifCond .lt 15, 3) := by decide +kernel
theorem dX0_hasPeriod_4 : decode cX0_hasPeriod 4 = .ok (.iload_n 1, 1) := by decide +kernel
theorem dX0_hasPeriod_5 : decode cX0_hasPeriod 5 = .ok (.aload_n 0, 1) := by decide +kernel
theorem dX0_hasPeriod_6 : decode cX0_hasPeriod 6 = .ok (.getfield 44, 3) := by decide +kernel
theorem dX0_hasPeriod_9 : decode cX0_hasPeriod 9 = .ok (.if_icmp .ge 7, 3) := by decide +kernel
theorem dX0_hasPeriod_12 : decode cX0_hasPeriod 12 = .ok (.iconst 1, 1) := by decide +kernel
theorem dX0_hasPeriod_13 : decode cX0_hasPeriod 13 = .ok (.goto 4, 3) := by decide +kernel
theorem dX0_hasPeriod_16 : decode cX0_hasPeriod 16 = .ok (.iconst 0, 1) := by decide +kernel
theorem dX0_hasPeriod_17 : decode cX0_hasPeriod 17 = .ok (.ireturn, 1) := by decide +kernel
theorem dX0_find_0 : decode cX0_find 0 = .ok (.iconst 0, 1) := by decide +kernel
theorem dX0_find_1 : decode cX0_find 1 = .ok (.istore_n 2, 1) := by decide +kernel
theorem dX0_find_2 : decode cX0_find 2 = .ok (.iload_n 2, 1) := by decide +kernel
theorem dX0_find_3 : decode cX0_find 3 = .ok (.aload_n 0, 1) := by decide +kernel
theorem dX0_find_4 : decode cX0_find 4 = .ok (.getfield 40, 3) := by decide +kernel
theorem dX0_find_7 : decode cX0_find 7 = .ok (.if_icmp .ge 21, 3) := by decide +kernel
theorem dX0_find_10 : decode cX0_find 10 = .ok (.aload_n 0, 1) := by decide +kernel
theorem dX0_find_11 : decode cX0_find 11 = .ok (.getfield 9, 3) := by decide +kernel
theorem dX0_find_14 : decode cX0_find 14 = .ok (.iload_n 2, 1) := by decide +kernel
theorem dX0_find_15 : decode cX0_find 15 = .ok (.iaload, 1) := by decide +kernel
theorem dX0_find_16 : decode cX0_find 16 = .ok (.iload_n 1, 1) := by decide +kernel
theorem dX0_find_17 : decode cX0_find 17 = .ok (.if_icmp .ne 5, 3) := by decide +kernel
theorem dX0_find_20 : decode cX0_find 20 = .ok (.iload_n 2, 1) := by decide +kernel
theorem dX0_find_21 : decode cX0_find 21 = .ok (.ireturn, 1) := by decide +kernel
theorem dX0_find_22 : decode cX0_find 22 = .ok (.iinc 2 1, 3) := by decide +kernel
theorem dX0_find_25 : decode cX0_find 25 = .ok (.goto (-23), 3) := by decide +kernel
theorem dX0_find_28 : decode cX0_find 28 = .ok (.iconst (-1), 1) := by decide +kernel
theorem dX0_find_29 : decode cX0_find 29 = .ok (.ireturn, 1) := by decide +kernel
theorem dX0_periodsOf_0 : decode cX0_periodsOf 0 = .ok (.iconst 0, 1) := by decide +kernel
theorem dX0_periodsOf_1 : decode cX0_periodsOf 1 = .ok (.istore_n 2, 1) := by decide +kernel
theorem dX0_periodsOf_2 : decode cX0_periodsOf 2 = .ok (.iconst 0, 1) := by decide +kernel
theorem dX0_periodsOf_3 : decode cX0_periodsOf 3 = .ok (.istore_n 3, 1) := by decide +kernel
theorem dX0_periodsOf_4 : decode cX0_periodsOf 4 = .ok (.iload_n 3, 1) := by decide +kernel
theorem dX0_periodsOf_5 : decode cX0_periodsOf 5 = .ok (.aload_n 0, 1) := by decide +kernel
theorem dX0_periodsOf_6 : decode cX0_periodsOf 6 = .ok (.getfield 44, 3) := by decide +kernel
theorem dX0_periodsOf_9 : decode cX0_periodsOf 9 = .ok (.if_icmp .ge 25, 3) := by decide +kernel
theorem dX0_periodsOf_12 : decode cX0_periodsOf 12 = .ok (.aload_n 0, 1) := by decide +kernel
theorem dX0_periodsOf_13 : decode cX0_periodsOf 13 = .ok (.getfield 21, 3) := by decide +kernel
theorem dX0_periodsOf_16 : decode cX0_periodsOf 16 = .ok (.iload_n 3, 1) := by decide +kernel
theorem dX0_periodsOf_17 : decode cX0_periodsOf 17 = .ok (.iaload, 1) := by decide +kernel
theorem dX0_periodsOf_18 : decode cX0_periodsOf 18 = .ok (.iload_n 1, 1) := by decide +kernel
theorem dX0_periodsOf_19 : decode cX0_periodsOf 19 = .ok (.if_icmp .ne 9, 3) := by decide +kernel
theorem dX0_periodsOf_22 : decode cX0_periodsOf 22 = .ok (.iload_n 2, 1) := by decide +kernel
theorem dX0_periodsOf_23 : decode cX0_periodsOf 23 = .ok (.iconst 1, 1) := by decide +kernel
theorem dX0_periodsOf_24 : decode cX0_periodsOf 24 = .ok (.iload_n 3, 1) := by decide +kernel
theorem dX0_periodsOf_25 : decode cX0_periodsOf 25 = .ok (.ishl, 1) := by decide +kernel
theorem dX0_periodsOf_26 : decode cX0_periodsOf 26 = .ok (.ior, 1) := by decide +kernel
theorem dX0_periodsOf_27 : decode cX0_periodsOf 27 = .ok (.istore_n 2, 1) := by decide +kernel
theorem dX0_periodsOf_28 : decode cX0_periodsOf 28 = .ok (.iinc 3 1, 3) := by decide +kernel
theorem dX0_periodsOf_31 : decode cX0_periodsOf 31 = .ok (.goto (-27), 3) := by decide +kernel
theorem dX0_periodsOf_34 : decode cX0_periodsOf 34 = .ok (.iload_n 2, 1) := by decide +kernel
theorem dX0_periodsOf_35 : decode cX0_periodsOf 35 = .ok (.ireturn, 1) := by decide +kernel
theorem dX0_signOf_0 : decode cX0_signOf 0 = .ok (.aload_n 0, 1) := by decide +kernel
theorem dX0_signOf_1 : decode cX0_signOf 1 = .ok (.getfield 30, 3) := by decide +kernel
theorem dX0_signOf_4 : decode cX0_signOf 4 = .ok (.iload_n 1, 1) := by decide +kernel
theorem dX0_signOf_5 : decode cX0_signOf 5 = .ok (.iaload, 1) := by decide +kernel
theorem dX0_signOf_6 : decode cX0_signOf 6 = .ok (.ifCond .ne 5, 3) := by decide +kernel
theorem dX0_signOf_9 : decode cX0_signOf 9 = .ok (.iconst 0, 1) := by decide +kernel
theorem dX0_signOf_10 : decode cX0_signOf 10 = .ok (.ireturn, 1) := by decide +kernel
theorem dX0_signOf_11 : decode cX0_signOf 11 = .ok (.aload_n 0, 1) := by decide +kernel
theorem dX0_signOf_12 : decode cX0_signOf 12 = .ok (.getfield 30, 3) := by decide +kernel
theorem dX0_signOf_15 : decode cX0_signOf 15 = .ok (.iload_n 1, 1) := by decide +kernel
theorem dX0_signOf_16 : decode cX0_signOf 16 = .ok (.iaload, 1) := by decide +kernel
theorem dX0_signOf_17 : decode cX0_signOf 17 = .ok (.ifCond .ge 7, 3) := by decide +kernel
theorem dX0_signOf_20 : decode cX0_signOf 20 = .ok (.iconst (-1), 1) := by decide +kernel
theorem dX0_signOf_21 : decode cX0_signOf 21 = .ok (.goto 4, 3) := by decide +kernel
theorem dX0_signOf_24 : decode cX0_signOf 24 = .ok (.iconst 1, 1) := by decide +kernel
theorem dX0_signOf_25 : decode cX0_signOf 25 = .ok (.ireturn, 1) := by decide +kernel
theorem dX0_countSigned_0 : decode cX0_countSigned 0 = .ok (.iconst 0, 1) := by decide +kernel
theorem dX0_countSigned_1 : decode cX0_countSigned 1 = .ok (.istore_n 2, 1) := by decide +kernel
theorem dX0_countSigned_2 : decode cX0_countSigned 2 = .ok (.iconst 0, 1) := by decide +kernel
theorem dX0_countSigned_3 : decode cX0_countSigned 3 = .ok (.istore_n 3, 1) := by decide +kernel
theorem dX0_countSigned_4 : decode cX0_countSigned 4 = .ok (.iload_n 3, 1) := by decide +kernel
theorem dX0_countSigned_5 : decode cX0_countSigned 5 = .ok (.aload_n 0, 1) := by decide +kernel
theorem dX0_countSigned_6 : decode cX0_countSigned 6 = .ok (.getfield 44, 3) := by decide +kernel
theorem dX0_countSigned_9 : decode cX0_countSigned 9 = .ok (.if_icmp .ge 21, 3) := by decide +kernel
theorem dX0_countSigned_12 : decode cX0_countSigned 12 = .ok (.aload_n 0, 1) := by decide +kernel
theorem dX0_countSigned_13 : decode cX0_countSigned 13 = .ok (.iload_n 3, 1) := by decide +kernel
theorem dX0_countSigned_14 : decode cX0_countSigned 14 = .ok (.invokevirtual 62, 3) := by decide +kernel
theorem dX0_countSigned_17 : decode cX0_countSigned 17 = .ok (.iload_n 1, 1) := by decide +kernel
theorem dX0_countSigned_18 : decode cX0_countSigned 18 = .ok (.if_icmp .ne 6, 3) := by decide +kernel
theorem dX0_countSigned_21 : decode cX0_countSigned 21 = .ok (.iinc 2 1, 3) := by decide +kernel
theorem dX0_countSigned_24 : decode cX0_countSigned 24 = .ok (.iinc 3 1, 3) := by decide +kernel
theorem dX0_countSigned_27 : decode cX0_countSigned 27 = .ok (.goto (-23), 3) := by decide +kernel
theorem dX0_countSigned_30 : decode cX0_countSigned 30 = .ok (.iload_n 2, 1) := by decide +kernel
theorem dX0_countSigned_31 : decode cX0_countSigned 31 = .ok (.ireturn, 1) := by decide +kernel
theorem dX0_overlaps_0 : decode cX0_overlaps 0 = .ok (.iconst 0, 1) := by decide +kernel
theorem dX0_overlaps_1 : decode cX0_overlaps 1 = .ok (.istore 5, 2) := by decide +kernel
theorem dX0_overlaps_3 : decode cX0_overlaps 3 = .ok (.iload 5, 2) := by decide +kernel
theorem dX0_overlaps_5 : decode cX0_overlaps 5 = .ok (.aload_n 0, 1) := by decide +kernel
theorem dX0_overlaps_6 : decode cX0_overlaps 6 = .ok (.getfield 44, 3) := by decide +kernel
theorem dX0_overlaps_9 : decode cX0_overlaps 9 = .ok (.if_icmp .ge 51, 3) := by decide +kernel
theorem dX0_overlaps_12 : decode cX0_overlaps 12 = .ok (.iload 5, 2) := by decide +kernel
theorem dX0_overlaps_14 : decode cX0_overlaps 14 = .ok (.iload 4, 2) := by decide +kernel
theorem dX0_overlaps_16 : decode cX0_overlaps 16 = .ok (.if_icmp .eq 38, 3) := by decide +kernel
theorem dX0_overlaps_19 : decode cX0_overlaps 19 = .ok (.aload_n 0, 1) := by decide +kernel
theorem dX0_overlaps_20 : decode cX0_overlaps 20 = .ok (.getfield 21, 3) := by decide +kernel
theorem dX0_overlaps_23 : decode cX0_overlaps 23 = .ok (.iload 5, 2) := by decide +kernel
theorem dX0_overlaps_25 : decode cX0_overlaps 25 = .ok (.iaload, 1) := by decide +kernel
theorem dX0_overlaps_26 : decode cX0_overlaps 26 = .ok (.iload_n 1, 1) := by decide +kernel
theorem dX0_overlaps_27 : decode cX0_overlaps 27 = .ok (.if_icmp .ne 27, 3) := by decide +kernel
theorem dX0_overlaps_30 : decode cX0_overlaps 30 = .ok (.aload_n 0, 1) := by decide +kernel
theorem dX0_overlaps_31 : decode cX0_overlaps 31 = .ok (.getfield 24, 3) := by decide +kernel
theorem dX0_overlaps_34 : decode cX0_overlaps 34 = .ok (.iload 5, 2) := by decide +kernel
theorem dX0_overlaps_36 : decode cX0_overlaps 36 = .ok (.iaload, 1) := by decide +kernel
theorem dX0_overlaps_37 : decode cX0_overlaps 37 = .ok (.iload_n 3, 1) := by decide +kernel
theorem dX0_overlaps_38 : decode cX0_overlaps 38 = .ok (.if_icmp .gt 16, 3) := by decide +kernel
theorem dX0_overlaps_41 : decode cX0_overlaps 41 = .ok (.aload_n 0, 1) := by decide +kernel
theorem dX0_overlaps_42 : decode cX0_overlaps 42 = .ok (.getfield 27, 3) := by decide +kernel
theorem dX0_overlaps_45 : decode cX0_overlaps 45 = .ok (.iload 5, 2) := by decide +kernel
theorem dX0_overlaps_47 : decode cX0_overlaps 47 = .ok (.iaload, 1) := by decide +kernel
theorem dX0_overlaps_48 : decode cX0_overlaps 48 = .ok (.iload_n 2, 1) := by decide +kernel
theorem dX0_overlaps_49 : decode cX0_overlaps 49 = .ok (.if_icmp .lt 5, 3) := by decide +kernel
theorem dX0_overlaps_52 : decode cX0_overlaps 52 = .ok (.iconst 1, 1) := by decide +kernel
theorem dX0_overlaps_53 : decode cX0_overlaps 53 = .ok (.ireturn, 1) := by decide +kernel
theorem dX0_overlaps_54 : decode cX0_overlaps 54 = .ok (.iinc 5 1, 3) := by decide +kernel
theorem dX0_overlaps_57 : decode cX0_overlaps 57 = .ok (.goto (-54), 3) := by decide +kernel
theorem dX0_overlaps_60 : decode cX0_overlaps 60 = .ok (.iconst 0, 1) := by decide +kernel
theorem dX0_overlaps_61 : decode cX0_overlaps 61 = .ok (.ireturn, 1) := by decide +kernel
theorem dX0_isOneMembers_0 : decode cX0_isOneMembers 0 = .ok (.aload_n 0, 1) := by decide +kernel
theorem dX0_isOneMembers_1 : decode cX0_isOneMembers 1 = .ok (.getfield 21, 3) := by decide +kernel
theorem dX0_isOneMembers_4 : decode cX0_isOneMembers 4 = .ok (.iload_n 1, 1) := by decide +kernel
theorem dX0_isOneMembers_5 : decode cX0_isOneMembers 5 = .ok (.iaload, 1) := by decide +kernel
theorem dX0_isOneMembers_6 : decode cX0_isOneMembers 6 = .ok (.aload_n 0, 1) := by decide +kernel
theorem dX0_isOneMembers_7 : decode cX0_isOneMembers 7 = .ok (.getfield 21, 3) := by decide +kernel
theorem dX0_isOneMembers_10 : decode cX0_isOneMembers 10 = .ok (.iload_n 2, 1) := by decide +kernel
theorem dX0_isOneMembers_11 : decode cX0_isOneMembers 11 = .ok (.iaload, 1) := by decide +kernel
theorem dX0_isOneMembers_12 : decode cX0_isOneMembers 12 = .ok (.if_icmp .ne 7, 3) := by decide +kernel
theorem dX0_isOneMembers_15 : decode cX0_isOneMembers 15 = .ok (.iconst 1, 1) := by decide +kernel
theorem dX0_isOneMembers_16 : decode cX0_isOneMembers 16 = .ok (.goto 4, 3) := by decide +kernel
theorem dX0_isOneMembers_19 : decode cX0_isOneMembers 19 = .ok (.iconst 0, 1) := by decide +kernel
theorem dX0_isOneMembers_20 : decode cX0_isOneMembers 20 = .ok (.ireturn, 1) := by decide +kernel
theorem dX0_isBetween_0 : decode cX0_isBetween 0 = .ok (.iload_n 3, 1) := by decide +kernel
theorem dX0_isBetween_1 : decode cX0_isBetween 1 = .ok (.iconst (-1), 1) := by decide +kernel
theorem dX0_isBetween_2 : decode cX0_isBetween 2 = .ok (.if_icmp .eq 13, 3) := by decide +kernel
theorem dX0_isBetween_5 : decode cX0_isBetween 5 = .ok (.aload_n 0, 1) := by decide +kernel
theorem dX0_isBetween_6 : decode cX0_isBetween 6 = .ok (.getfield 21, 3) := by decide +kernel
theorem dX0_isBetween_9 : decode cX0_isBetween 9 = .ok (.iload_n 2, 1) := by decide +kernel
theorem dX0_isBetween_10 : decode cX0_isBetween 10 = .ok (.iaload, 1) := by decide +kernel
theorem dX0_isBetween_11 : decode cX0_isBetween 11 = .ok (.iload_n 3, 1) := by decide +kernel
theorem dX0_isBetween_12 : decode cX0_isBetween 12 = .ok (.if_icmp .ne 24, 3) := by decide +kernel
theorem dX0_isBetween_15 : decode cX0_isBetween 15 = .ok (.iload 4, 2) := by decide +kernel
theorem dX0_isBetween_17 : decode cX0_isBetween 17 = .ok (.iconst (-1), 1) := by decide +kernel
theorem dX0_isBetween_18 : decode cX0_isBetween 18 = .ok (.if_icmp .eq 14, 3) := by decide +kernel
theorem dX0_isBetween_21 : decode cX0_isBetween 21 = .ok (.aload_n 0, 1) := by decide +kernel
theorem dX0_isBetween_22 : decode cX0_isBetween 22 = .ok (.getfield 21, 3) := by decide +kernel
theorem dX0_isBetween_25 : decode cX0_isBetween 25 = .ok (.iload_n 1, 1) := by decide +kernel
theorem dX0_isBetween_26 : decode cX0_isBetween 26 = .ok (.iaload, 1) := by decide +kernel
theorem dX0_isBetween_27 : decode cX0_isBetween 27 = .ok (.iload 4, 2) := by decide +kernel
theorem dX0_isBetween_29 : decode cX0_isBetween 29 = .ok (.if_icmp .ne 7, 3) := by decide +kernel
theorem dX0_isBetween_32 : decode cX0_isBetween 32 = .ok (.iconst 1, 1) := by decide +kernel
theorem dX0_isBetween_33 : decode cX0_isBetween 33 = .ok (.goto 4, 3) := by decide +kernel
theorem dX0_isBetween_36 : decode cX0_isBetween 36 = .ok (.iconst 0, 1) := by decide +kernel
theorem dX0_isBetween_37 : decode cX0_isBetween 37 = .ok (.ireturn, 1) := by decide +kernel
theorem dX0_paidFor_0 : decode cX0_paidFor 0 = .ok (.aload_n 0, 1) := by decide +kernel
theorem dX0_paidFor_1 : decode cX0_paidFor 1 = .ok (.iload_n 1, 1) := by decide +kernel
theorem dX0_paidFor_2 : decode cX0_paidFor 2 = .ok (.iload_n 2, 1) := by decide +kernel
theorem dX0_paidFor_3 : decode cX0_paidFor 3 = .ok (.invokevirtual 66, 3) := by decide +kernel
theorem dX0_paidFor_6 : decode cX0_paidFor 6 = .ok (.ifCond .eq 7, 3) := by decide +kernel
theorem dX0_paidFor_9 : decode cX0_paidFor 9 = .ok (.iconst 0, 1) := by decide +kernel
theorem dX0_paidFor_10 : decode cX0_paidFor 10 = .ok (.goto 19, 3) := by decide +kernel
theorem dX0_paidFor_13 : decode cX0_paidFor 13 = .ok (.iload_n 3, 1) := by decide +kernel
theorem dX0_paidFor_14 : decode cX0_paidFor 14 = .ok (.aload_n 0, 1) := by decide +kernel
theorem dX0_paidFor_15 : decode cX0_paidFor 15 = .ok (.getfield 15, 3) := by decide +kernel
theorem dX0_paidFor_18 : decode cX0_paidFor 18 = .ok (.aload_n 0, 1) := by decide +kernel
theorem dX0_paidFor_19 : decode cX0_paidFor 19 = .ok (.getfield 21, 3) := by decide +kernel
theorem dX0_paidFor_22 : decode cX0_paidFor 22 = .ok (.iload_n 1, 1) := by decide +kernel
theorem dX0_paidFor_23 : decode cX0_paidFor 23 = .ok (.iaload, 1) := by decide +kernel
theorem dX0_paidFor_24 : decode cX0_paidFor 24 = .ok (.iaload, 1) := by decide +kernel
theorem dX0_paidFor_25 : decode cX0_paidFor 25 = .ok (.imul, 1) := by decide +kernel
theorem dX0_paidFor_26 : decode cX0_paidFor 26 = .ok (.bipush 100, 2) := by decide +kernel
theorem dX0_paidFor_28 : decode cX0_paidFor 28 = .ok (.idiv, 1) := by decide +kernel
theorem dX0_paidFor_29 : decode cX0_paidFor 29 = .ok (.ireturn, 1) := by decide +kernel
theorem dX0_priceOf_0 : decode cX0_priceOf 0 = .ok (.aload_n 0, 1) := by decide +kernel
theorem dX0_priceOf_1 : decode cX0_priceOf 1 = .ok (.getfield 15, 3) := by decide +kernel
theorem dX0_priceOf_4 : decode cX0_priceOf 4 = .ok (.aload_n 0, 1) := by decide +kernel
theorem dX0_priceOf_5 : decode cX0_priceOf 5 = .ok (.getfield 21, 3) := by decide +kernel
theorem dX0_priceOf_8 : decode cX0_priceOf 8 = .ok (.iload_n 1, 1) := by decide +kernel
theorem dX0_priceOf_9 : decode cX0_priceOf 9 = .ok (.iaload, 1) := by decide +kernel
theorem dX0_priceOf_10 : decode cX0_priceOf 10 = .ok (.iaload, 1) := by decide +kernel
theorem dX0_priceOf_11 : decode cX0_priceOf 11 = .ok (.istore_n 3, 1) := by decide +kernel
theorem dX0_priceOf_12 : decode cX0_priceOf 12 = .ok (.aload_n 0, 1) := by decide +kernel
theorem dX0_priceOf_13 : decode cX0_priceOf 13 = .ok (.getfield 18, 3) := by decide +kernel
theorem dX0_priceOf_16 : decode cX0_priceOf 16 = .ok (.aload_n 0, 1) := by decide +kernel
theorem dX0_priceOf_17 : decode cX0_priceOf 17 = .ok (.getfield 21, 3) := by decide +kernel
theorem dX0_priceOf_20 : decode cX0_priceOf 20 = .ok (.iload_n 2, 1) := by decide +kernel
theorem dX0_priceOf_21 : decode cX0_priceOf 21 = .ok (.iaload, 1) := by decide +kernel
theorem dX0_priceOf_22 : decode cX0_priceOf 22 = .ok (.iaload, 1) := by decide +kernel
theorem dX0_priceOf_23 : decode cX0_priceOf 23 = .ok (.istore 4, 2) := by decide +kernel
theorem dX0_priceOf_25 : decode cX0_priceOf 25 = .ok (.aload_n 0, 1) := by decide +kernel
theorem dX0_priceOf_26 : decode cX0_priceOf 26 = .ok (.iload_n 1, 1) := by decide +kernel
theorem dX0_priceOf_27 : decode cX0_priceOf 27 = .ok (.iload_n 2, 1) := by decide +kernel
theorem dX0_priceOf_28 : decode cX0_priceOf 28 = .ok (.invokevirtual 66, 3) := by decide +kernel
theorem dX0_priceOf_31 : decode cX0_priceOf 31 = .ok (.ifCond .eq 5, 3) := by decide +kernel
theorem dX0_priceOf_34 : decode cX0_priceOf 34 = .ok (.iconst 0, 1) := by decide +kernel
theorem dX0_priceOf_35 : decode cX0_priceOf 35 = .ok (.ireturn, 1) := by decide +kernel
theorem dX0_priceOf_36 : decode cX0_priceOf 36 = .ok (.aload_n 0, 1) := by decide +kernel
theorem dX0_priceOf_37 : decode cX0_priceOf 37 = .ok (.getfield 50, 3) := by decide +kernel
theorem dX0_priceOf_40 : decode cX0_priceOf 40 = .ok (.ifCond .ne 5, 3) := by decide +kernel
theorem dX0_priceOf_43 : decode cX0_priceOf 43 = .ok (.iload_n 3, 1) := by decide +kernel
theorem dX0_priceOf_44 : decode cX0_priceOf 44 = .ok (.ireturn, 1) := by decide +kernel
theorem dX0_priceOf_45 : decode cX0_priceOf 45 = .ok (.aload_n 0, 1) := by decide +kernel
theorem dX0_priceOf_46 : decode cX0_priceOf 46 = .ok (.getfield 50, 3) := by decide +kernel
theorem dX0_priceOf_49 : decode cX0_priceOf 49 = .ok (.iconst 1, 1) := by decide +kernel
theorem dX0_priceOf_50 : decode cX0_priceOf 50 = .ok (.if_icmp .ne 13, 3) := by decide +kernel
theorem dX0_priceOf_53 : decode cX0_priceOf 53 = .ok (.iload_n 3, 1) := by decide +kernel
theorem dX0_priceOf_54 : decode cX0_priceOf 54 = .ok (.bipush 99, 2) := by decide +kernel
theorem dX0_priceOf_56 : decode cX0_priceOf 56 = .ok (.iadd, 1) := by decide +kernel
theorem dX0_priceOf_57 : decode cX0_priceOf 57 = .ok (.iload 4, 2) := by decide +kernel
theorem dX0_priceOf_59 : decode cX0_priceOf 59 = .ok (.isub, 1) := by decide +kernel
theorem dX0_priceOf_60 : decode cX0_priceOf 60 = .ok (.goto 10, 3) := by decide +kernel
theorem dX0_priceOf_63 : decode cX0_priceOf 63 = .ok (.iload_n 3, 1) := by decide +kernel
theorem dX0_priceOf_64 : decode cX0_priceOf 64 = .ok (.iload 4, 2) := by decide +kernel
theorem dX0_priceOf_66 : decode cX0_priceOf 66 = .ok (.isub, 1) := by decide +kernel
theorem dX0_priceOf_67 : decode cX0_priceOf 67 = .ok (.invokestatic 70, 3) := by decide +kernel
theorem dX0_priceOf_70 : decode cX0_priceOf 70 = .ok (.ireturn, 1) := by decide +kernel
theorem dX1_init_0 : decode cX1_init 0 = .ok (.aload_n 0, 1) := by decide +kernel
theorem dX1_init_1 : decode cX1_init 1 = .ok (.invokespecial 3, 3) := by decide +kernel
theorem dX1_init_4 : decode cX1_init 4 = .ok (.aload_n 0, 1) := by decide +kernel
theorem dX1_init_5 : decode cX1_init 5 = .ok (.bipush 12, 2) := by decide +kernel
theorem dX1_init_7 : decode cX1_init 7 = .ok (.newarray .int, 2) := by decide +kernel
theorem dX1_init_9 : decode cX1_init 9 = .ok (.putfield 9, 3) := by decide +kernel
theorem dX1_init_12 : decode cX1_init 12 = .ok (.aload_n 0, 1) := by decide +kernel
theorem dX1_init_13 : decode cX1_init 13 = .ok (.bipush 12, 2) := by decide +kernel
theorem dX1_init_15 : decode cX1_init 15 = .ok (.newarray .int, 2) := by decide +kernel
theorem dX1_init_17 : decode cX1_init 17 = .ok (.putfield 15, 3) := by decide +kernel
theorem dX1_init_20 : decode cX1_init 20 = .ok (.aload_n 0, 1) := by decide +kernel
theorem dX1_init_21 : decode cX1_init 21 = .ok (.sipush 144, 3) := by decide +kernel
theorem dX1_init_24 : decode cX1_init 24 = .ok (.newarray .int, 2) := by decide +kernel
theorem dX1_init_26 : decode cX1_init 26 = .ok (.putfield 18, 3) := by decide +kernel
theorem dX1_init_29 : decode cX1_init 29 = .ok (.aload_n 0, 1) := by decide +kernel
theorem dX1_init_30 : decode cX1_init 30 = .ok (.sipush 144, 3) := by decide +kernel
theorem dX1_init_33 : decode cX1_init 33 = .ok (.newarray .int, 2) := by decide +kernel
theorem dX1_init_35 : decode cX1_init 35 = .ok (.putfield 21, 3) := by decide +kernel
theorem dX1_init_38 : decode cX1_init 38 = .ok (.aload_n 0, 1) := by decide +kernel
theorem dX1_init_39 : decode cX1_init 39 = .ok (.sipush 144, 3) := by decide +kernel
theorem dX1_init_42 : decode cX1_init 42 = .ok (.newarray .int, 2) := by decide +kernel
theorem dX1_init_44 : decode cX1_init 44 = .ok (.putfield 24, 3) := by decide +kernel
theorem dX1_init_47 : decode cX1_init 47 = .ok (.aload_n 0, 1) := by decide +kernel
theorem dX1_init_48 : decode cX1_init 48 = .ok (.bipush 12, 2) := by decide +kernel
theorem dX1_init_50 : decode cX1_init 50 = .ok (.newarray .int, 2) := by decide +kernel
theorem dX1_init_52 : decode cX1_init 52 = .ok (.putfield 27, 3) := by decide +kernel
theorem dX1_init_55 : decode cX1_init 55 = .ok (.aload_n 0, 1) := by decide +kernel
theorem dX1_init_56 : decode cX1_init 56 = .ok (.bipush 12, 2) := by decide +kernel
theorem dX1_init_58 : decode cX1_init 58 = .ok (.newarray .int, 2) := by decide +kernel
theorem dX1_init_60 : decode cX1_init 60 = .ok (.putfield 30, 3) := by decide +kernel
theorem dX1_init_63 : decode cX1_init 63 = .ok (.aload_n 0, 1) := by decide +kernel
theorem dX1_init_64 : decode cX1_init 64 = .ok (.bipush 12, 2) := by decide +kernel
theorem dX1_init_66 : decode cX1_init 66 = .ok (.newarray .int, 2) := by decide +kernel
theorem dX1_init_68 : decode cX1_init 68 = .ok (.putfield 33, 3) := by decide +kernel
theorem dX1_init_71 : decode cX1_init 71 = .ok (.aload_n 0, 1) := by decide +kernel
theorem dX1_init_72 : decode cX1_init 72 = .ok (.bipush 12, 2) := by decide +kernel
theorem dX1_init_74 : decode cX1_init 74 = .ok (.newarray .int, 2) := by decide +kernel
theorem dX1_init_76 : decode cX1_init 76 = .ok (.putfield 36, 3) := by decide +kernel
theorem dX1_init_79 : decode cX1_init 79 = .ok (.aload_n 0, 1) := by decide +kernel
theorem dX1_init_80 : decode cX1_init 80 = .ok (.iconst 0, 1) := by decide +kernel
theorem dX1_init_81 : decode cX1_init 81 = .ok (.putfield 39, 3) := by decide +kernel
theorem dX1_init_84 : decode cX1_init 84 = .ok (.aload_n 0, 1) := by decide +kernel
theorem dX1_init_85 : decode cX1_init 85 = .ok (.iconst 0, 1) := by decide +kernel
theorem dX1_init_86 : decode cX1_init 86 = .ok (.putfield 43, 3) := by decide +kernel
theorem dX1_init_89 : decode cX1_init 89 = .ok (.aload_n 0, 1) := by decide +kernel
theorem dX1_init_90 : decode cX1_init 90 = .ok (.iconst 0, 1) := by decide +kernel
theorem dX1_init_91 : decode cX1_init 91 = .ok (.putfield 46, 3) := by decide +kernel
theorem dX1_init_94 : decode cX1_init 94 = .ok (.aload_n 0, 1) := by decide +kernel
theorem dX1_init_95 : decode cX1_init 95 = .ok (.iconst 0, 1) := by decide +kernel
theorem dX1_init_96 : decode cX1_init 96 = .ok (.putfield 49, 3) := by decide +kernel
theorem dX1_init_99 : decode cX1_init 99 = .ok (.aload_n 0, 1) := by decide +kernel
theorem dX1_init_100 : decode cX1_init 100 = .ok (.iconst 0, 1) := by decide +kernel
theorem dX1_init_101 : decode cX1_init 101 = .ok (.putfield 52, 3) := by decide +kernel
theorem dX1_init_104 : decode cX1_init 104 = .ok (.return_, 1) := by decide +kernel
theorem dX1_load_0 : decode cX1_load 0 = .ok (.aload_n 0, 1) := by decide +kernel
theorem dX1_load_1 : decode cX1_load 1 = .ok (.aload_n 1, 1) := by decide +kernel
theorem dX1_load_2 : decode cX1_load 2 = .ok (.getfield 55, 3) := by decide +kernel
theorem dX1_load_5 : decode cX1_load 5 = .ok (.putfield 46, 3) := by decide +kernel
theorem dX1_load_8 : decode cX1_load 8 = .ok (.iconst 0, 1) := by decide +kernel
theorem dX1_load_9 : decode cX1_load 9 = .ok (.istore 5, 2) := by decide +kernel
theorem dX1_load_11 : decode cX1_load 11 = .ok (.iload 5, 2) := by decide +kernel
theorem dX1_load_13 : decode cX1_load 13 = .ok (.aload_n 0, 1) := by decide +kernel
theorem dX1_load_14 : decode cX1_load 14 = .ok (.getfield 46, 3) := by decide +kernel
theorem dX1_load_17 : decode cX1_load 17 = .ok (.if_icmp .ge 134, 3) := by decide +kernel
theorem dX1_load_20 : decode cX1_load 20 = .ok (.iload 4, 2) := by decide +kernel
theorem dX1_load_22 : decode cX1_load 22 = .ok (.iload 5, 2) := by decide +kernel
theorem dX1_load_24 : decode cX1_load 24 = .ok (.ishr, 1) := by decide +kernel
theorem dX1_load_25 : decode cX1_load 25 = .ok (.iconst 1, 1) := by decide +kernel
theorem dX1_load_26 : decode cX1_load 26 = .ok (.iand, 1) := by decide +kernel
theorem dX1_load_27 : decode cX1_load 27 = .ok (.ifCond .ne 7, 3) := by decide +kernel
theorem dX1_load_30 : decode cX1_load 30 = .ok (.iconst 1, 1) := by decide +kernel
theorem dX1_load_31 : decode cX1_load 31 = .ok (.goto 4, 3) := by decide +kernel
theorem dX1_load_34 : decode cX1_load 34 = .ok (.iconst 0, 1) := by decide +kernel
theorem dX1_load_35 : decode cX1_load 35 = .ok (.istore 6, 2) := by decide +kernel
theorem dX1_load_37 : decode cX1_load 37 = .ok (.aload_n 0, 1) := by decide +kernel
theorem dX1_load_38 : decode cX1_load 38 = .ok (.getfield 9, 3) := by decide +kernel
theorem dX1_load_41 : decode cX1_load 41 = .ok (.iload 5, 2) := by decide +kernel
theorem dX1_load_43 : decode cX1_load 43 = .ok (.iload 6, 2) := by decide +kernel
theorem dX1_load_45 : decode cX1_load 45 = .ok (.ifCond .eq 12, 3) := by decide +kernel
theorem dX1_load_48 : decode cX1_load 48 = .ok (.aload_n 1, 1) := by decide +kernel
theorem dX1_load_49 : decode cX1_load 49 = .ok (.iload 5, 2) := by decide +kernel
theorem dX1_load_51 : decode cX1_load 51 = .ok (.invokevirtual 58, 3) := by decide +kernel
theorem dX1_load_54 : decode cX1_load 54 = .ok (.goto 4, 3) := by decide +kernel
theorem dX1_load_57 : decode cX1_load 57 = .ok (.iconst 0, 1) := by decide +kernel
theorem dX1_load_58 : decode cX1_load 58 = .ok (.iastore, 1) := by decide +kernel
theorem dX1_load_59 : decode cX1_load 59 = .ok (.aload_n 0, 1) := by decide +kernel
theorem dX1_load_60 : decode cX1_load 60 = .ok (.getfield 15, 3) := by decide +kernel
theorem dX1_load_63 : decode cX1_load 63 = .ok (.iload 5, 2) := by decide +kernel
theorem dX1_load_65 : decode cX1_load 65 = .ok (.iload 6, 2) := by decide +kernel
theorem dX1_load_67 : decode cX1_load 67 = .ok (.ifCond .eq 16, 3) := by decide +kernel
theorem dX1_load_70 : decode cX1_load 70 = .ok (.aload_n 1, 1) := by decide +kernel
theorem dX1_load_71 : decode cX1_load 71 = .ok (.getfield 62, 3) := by decide +kernel
theorem dX1_load_74 : decode cX1_load 74 = .ok (.iload 5, 2) := by decide +kernel
theorem dX1_load_76 : decode cX1_load 76 = .ok (.iaload, 1) := by decide +kernel
theorem dX1_load_77 : decode cX1_load 77 = .ok (.invokestatic 65, 3) := by decide +kernel
theorem dX1_load_80 : decode cX1_load 80 = .ok (.goto 4, 3) := by decide +kernel
theorem dX1_load_83 : decode cX1_load 83 = .ok (.iconst 0, 1) := by decide +kernel
theorem dX1_load_84 : decode cX1_load 84 = .ok (.iastore, 1) := by decide +kernel
theorem dX1_load_85 : decode cX1_load 85 = .ok (.iconst 0, 1) := by decide +kernel
theorem dX1_load_86 : decode cX1_load 86 = .ok (.istore 7, 2) := by decide +kernel
theorem dX1_load_88 : decode cX1_load 88 = .ok (.iload 7, 2) := by decide +kernel
theorem dX1_load_90 : decode cX1_load 90 = .ok (.aload_n 0, 1) := by decide +kernel
theorem dX1_load_91 : decode cX1_load 91 = .ok (.getfield 46, 3) := by decide +kernel
theorem dX1_load_94 : decode cX1_load 94 = .ok (.if_icmp .ge 51, 3) := by decide +kernel
theorem dX1_load_97 : decode cX1_load 97 = .ok (.iload 5, 2) := by decide +kernel
theorem dX1_load_99 : decode cX1_load 99 = .ok (.bipush 12, 2) := by decide +kernel
theorem dX1_load_101 : decode cX1_load 101 = .ok (.imul, 1) := by decide +kernel
theorem dX1_load_102 : decode cX1_load 102 = .ok (.iload 7, 2) := by decide +kernel
theorem dX1_load_104 : decode cX1_load 104 = .ok (.iadd, 1) := by decide +kernel
theorem dX1_load_105 : decode cX1_load 105 = .ok (.istore 8, 2) := by decide +kernel
theorem dX1_load_107 : decode cX1_load 107 = .ok (.aload_n 0, 1) := by decide +kernel
theorem dX1_load_108 : decode cX1_load 108 = .ok (.getfield 18, 3) := by decide +kernel
theorem dX1_load_111 : decode cX1_load 111 = .ok (.iload 8, 2) := by decide +kernel
theorem dX1_load_113 : decode cX1_load 113 = .ok (.iconst 0, 1) := by decide +kernel
theorem dX1_load_114 : decode cX1_load 114 = .ok (.aload_n 2, 1) := by decide +kernel
theorem dX1_load_115 : decode cX1_load 115 = .ok (.getfield 70, 3) := by decide +kernel
theorem dX1_load_118 : decode cX1_load 118 = .ok (.iload 8, 2) := by decide +kernel
theorem dX1_load_120 : decode cX1_load 120 = .ok (.iaload, 1) := by decide +kernel
theorem dX1_load_121 : decode cX1_load 121 = .ok (.invokestatic 75, 3) := by decide +kernel
theorem dX1_load_124 : decode cX1_load 124 = .ok (.iastore, 1) := by decide +kernel
theorem dX1_load_125 : decode cX1_load 125 = .ok (.aload_n 0, 1) := by decide +kernel
theorem dX1_load_126 : decode cX1_load 126 = .ok (.getfield 21, 3) := by decide +kernel
theorem dX1_load_129 : decode cX1_load 129 = .ok (.iload 8, 2) := by decide +kernel
theorem dX1_load_131 : decode cX1_load 131 = .ok (.aload_n 2, 1) := by decide +kernel
theorem dX1_load_132 : decode cX1_load 132 = .ok (.getfield 79, 3) := by decide +kernel
theorem dX1_load_135 : decode cX1_load 135 = .ok (.iload 8, 2) := by decide +kernel
theorem dX1_load_137 : decode cX1_load 137 = .ok (.iaload, 1) := by decide +kernel
theorem dX1_load_138 : decode cX1_load 138 = .ok (.iastore, 1) := by decide +kernel
theorem dX1_load_139 : decode cX1_load 139 = .ok (.iinc 7 1, 3) := by decide +kernel
theorem dX1_load_142 : decode cX1_load 142 = .ok (.goto (-54), 3) := by decide +kernel
theorem dX1_load_145 : decode cX1_load 145 = .ok (.iinc 5 1, 3) := by decide +kernel
theorem dX1_load_148 : decode cX1_load 148 = .ok (.goto (-137), 3) := by decide +kernel
theorem dX1_load_151 : decode cX1_load 151 = .ok (.iconst 0, 1) := by decide +kernel
theorem dX1_load_152 : decode cX1_load 152 = .ok (.istore 5, 2) := by decide +kernel
theorem dX1_load_154 : decode cX1_load 154 = .ok (.iload 5, 2) := by decide +kernel
theorem dX1_load_156 : decode cX1_load 156 = .ok (.aload_n 3, 1) := by decide +kernel
theorem dX1_load_157 : decode cX1_load 157 = .ok (.getfield 80, 3) := by decide +kernel
theorem dX1_load_160 : decode cX1_load 160 = .ok (.if_icmp .ge 104, 3) := by decide +kernel
theorem dX1_load_163 : decode cX1_load 163 = .ok (.aload_n 3, 1) := by decide +kernel
theorem dX1_load_164 : decode cX1_load 164 = .ok (.getfield 85, 3) := by decide +kernel
theorem dX1_load_167 : decode cX1_load 167 = .ok (.iload 5, 2) := by decide +kernel
theorem dX1_load_169 : decode cX1_load 169 = .ok (.iaload, 1) := by decide +kernel
theorem dX1_load_170 : decode cX1_load 170 = .ok (.istore 6, 2) := by decide +kernel
theorem dX1_load_172 : decode cX1_load 172 = .ok (.aload_n 3, 1) := by decide +kernel
theorem dX1_load_173 : decode cX1_load 173 = .ok (.getfield 88, 3) := by decide +kernel
theorem dX1_load_176 : decode cX1_load 176 = .ok (.iload 5, 2) := by decide +kernel
theorem dX1_load_178 : decode cX1_load 178 = .ok (.iaload, 1) := by decide +kernel
theorem dX1_load_179 : decode cX1_load 179 = .ok (.istore 7, 2) := by decide +kernel
theorem dX1_load_181 : decode cX1_load 181 = .ok (.iload 4, 2) := by decide +kernel
theorem dX1_load_183 : decode cX1_load 183 = .ok (.iload 6, 2) := by decide +kernel
theorem dX1_load_185 : decode cX1_load 185 = .ok (.ishr, 1) := by decide +kernel
theorem dX1_load_186 : decode cX1_load 186 = .ok (.iconst 1, 1) := by decide +kernel
theorem dX1_load_187 : decode cX1_load 187 = .ok (.iand, 1) := by decide +kernel
theorem dX1_load_188 : decode cX1_load 188 = .ok (.ifCond .ne 70, 3) := by decide +kernel
theorem dX1_load_191 : decode cX1_load 191 = .ok (.iload 4, 2) := by decide +kernel
theorem dX1_load_193 : decode cX1_load 193 = .ok (.iload 7, 2) := by decide +kernel
theorem dX1_load_195 : decode cX1_load 195 = .ok (.ishr, 1) := by decide +kernel
theorem dX1_load_196 : decode cX1_load 196 = .ok (.iconst 1, 1) := by decide +kernel
theorem dX1_load_197 : decode cX1_load 197 = .ok (.iand, 1) := by decide +kernel
theorem dX1_load_198 : decode cX1_load 198 = .ok (.ifCond .ne 60, 3) := by decide +kernel
theorem dX1_load_201 : decode cX1_load 201 = .ok (.aload_n 0, 1) := by decide +kernel
theorem dX1_load_202 : decode cX1_load 202 = .ok (.getfield 15, 3) := by decide +kernel
theorem dX1_load_205 : decode cX1_load 205 = .ok (.iload 6, 2) := by decide +kernel
theorem dX1_load_207 : decode cX1_load 207 = .ok (.dup2, 1) := by decide +kernel
theorem dX1_load_208 : decode cX1_load 208 = .ok (.iaload, 1) := by decide +kernel
theorem dX1_load_209 : decode cX1_load 209 = .ok (.aload_n 3, 1) := by decide +kernel
theorem dX1_load_210 : decode cX1_load 210 = .ok (.getfield 91, 3) := by decide +kernel
theorem dX1_load_213 : decode cX1_load 213 = .ok (.iload 5, 2) := by decide +kernel
theorem dX1_load_215 : decode cX1_load 215 = .ok (.iaload, 1) := by decide +kernel
theorem dX1_load_216 : decode cX1_load 216 = .ok (.isub, 1) := by decide +kernel
theorem dX1_load_217 : decode cX1_load 217 = .ok (.iastore, 1) := by decide +kernel
theorem dX1_load_218 : decode cX1_load 218 = .ok (.aload_n 0, 1) := by decide +kernel
theorem dX1_load_219 : decode cX1_load 219 = .ok (.getfield 15, 3) := by decide +kernel
theorem dX1_load_222 : decode cX1_load 222 = .ok (.iload 7, 2) := by decide +kernel
theorem dX1_load_224 : decode cX1_load 224 = .ok (.dup2, 1) := by decide +kernel
theorem dX1_load_225 : decode cX1_load 225 = .ok (.iaload, 1) := by decide +kernel
theorem dX1_load_226 : decode cX1_load 226 = .ok (.aload_n 3, 1) := by decide +kernel
theorem dX1_load_227 : decode cX1_load 227 = .ok (.getfield 91, 3) := by decide +kernel
theorem dX1_load_230 : decode cX1_load 230 = .ok (.iload 5, 2) := by decide +kernel
theorem dX1_load_232 : decode cX1_load 232 = .ok (.iaload, 1) := by decide +kernel
theorem dX1_load_233 : decode cX1_load 233 = .ok (.isub, 1) := by decide +kernel
theorem dX1_load_234 : decode cX1_load 234 = .ok (.iastore, 1) := by decide +kernel
theorem dX1_load_235 : decode cX1_load 235 = .ok (.aload_n 0, 1) := by decide +kernel
theorem dX1_load_236 : decode cX1_load 236 = .ok (.getfield 18, 3) := by decide +kernel
theorem dX1_load_239 : decode cX1_load 239 = .ok (.iload 6, 2) := by decide +kernel
theorem dX1_load_241 : decode cX1_load 241 = .ok (.bipush 12, 2) := by decide +kernel
theorem dX1_load_243 : decode cX1_load 243 = .ok (.imul, 1) := by decide +kernel
theorem dX1_load_244 : decode cX1_load 244 = .ok (.iload 7, 2) := by decide +kernel
theorem dX1_load_246 : decode cX1_load 246 = .ok (.iadd, 1) := by decide +kernel
theorem dX1_load_247 : decode cX1_load 247 = .ok (.dup2, 1) := by decide +kernel
theorem dX1_load_248 : decode cX1_load 248 = .ok (.iaload, 1) := by decide +kernel
theorem dX1_load_249 : decode cX1_load 249 = .ok (.aload_n 3, 1) := by decide +kernel
theorem dX1_load_250 : decode cX1_load 250 = .ok (.getfield 91, 3) := by decide +kernel
theorem dX1_load_253 : decode cX1_load 253 = .ok (.iload 5, 2) := by decide +kernel
theorem dX1_load_255 : decode cX1_load 255 = .ok (.iaload, 1) := by decide +kernel
theorem dX1_load_256 : decode cX1_load 256 = .ok (.isub, 1) := by decide +kernel
theorem dX1_load_257 : decode cX1_load 257 = .ok (.iastore, 1) := by decide +kernel
theorem dX1_load_258 : decode cX1_load 258 = .ok (.iinc 5 1, 3) := by decide +kernel
theorem dX1_load_261 : decode cX1_load 261 = .ok (.goto (-107), 3) := by decide +kernel
theorem dX1_load_264 : decode cX1_load 264 = .ok (.return_, 1) := by decide +kernel
theorem dX1_run_0 : decode cX1_run 0 = .ok (.iconst 0, 1) := by decide +kernel
theorem dX1_run_1 : decode cX1_run 1 = .ok (.istore_n 1, 1) := by decide +kernel
theorem dX1_run_2 : decode cX1_run 2 = .ok (.iload_n 1, 1) := by decide +kernel
theorem dX1_run_3 : decode cX1_run 3 = .ok (.aload_n 0, 1) := by decide +kernel
theorem dX1_run_4 : decode cX1_run 4 = .ok (.getfield 24, 3) := by decide +kernel
theorem dX1_run_7 : decode cX1_run 7 = .ok (.arraylength, 1) := by decide +kernel
theorem dX1_run_8 : decode cX1_run 8 = .ok (.if_icmp .ge 16, 3) := by decide +kernel
theorem dX1_run_11 : decode cX1_run 11 = .ok (.aload_n 0, 1) := by decide +kernel
theorem dX1_run_12 : decode cX1_run 12 = .ok (.getfield 24, 3) := by decide +kernel
theorem dX1_run_15 : decode cX1_run 15 = .ok (.iload_n 1, 1) := by decide +kernel
theorem dX1_run_16 : decode cX1_run 16 = .ok (.iconst 0, 1) := by decide +kernel
theorem dX1_run_17 : decode cX1_run 17 = .ok (.iastore, 1) := by decide +kernel
theorem dX1_run_18 : decode cX1_run 18 = .ok (.iinc 1 1, 3) := by decide +kernel
theorem dX1_run_21 : decode cX1_run 21 = .ok (.goto (-19), 3) := by decide +kernel
theorem dX1_run_24 : decode cX1_run 24 = .ok (.aload_n 0, 1) := by decide +kernel
theorem dX1_run_25 : decode cX1_run 25 = .ok (.iconst 0, 1) := by decide +kernel
theorem dX1_run_26 : decode cX1_run 26 = .ok (.putfield 43, 3) := by decide +kernel
theorem dX1_run_29 : decode cX1_run 29 = .ok (.aload_n 0, 1) := by decide +kernel
theorem dX1_run_30 : decode cX1_run 30 = .ok (.iconst 0, 1) := by decide +kernel
theorem dX1_run_31 : decode cX1_run 31 = .ok (.putfield 49, 3) := by decide +kernel
theorem dX1_run_34 : decode cX1_run 34 = .ok (.aload_n 0, 1) := by decide +kernel
theorem dX1_run_35 : decode cX1_run 35 = .ok (.iconst 0, 1) := by decide +kernel
theorem dX1_run_36 : decode cX1_run 36 = .ok (.putfield 52, 3) := by decide +kernel
theorem dX1_run_39 : decode cX1_run 39 = .ok (.iconst 1, 1) := by decide +kernel
theorem dX1_run_40 : decode cX1_run 40 = .ok (.istore_n 1, 1) := by decide +kernel
theorem dX1_run_41 : decode cX1_run 41 = .ok (.iconst 0, 1) := by decide +kernel
theorem dX1_run_42 : decode cX1_run 42 = .ok (.istore_n 2, 1) := by decide +kernel
theorem dX1_run_43 : decode cX1_run 43 = .ok (.iload_n 2, 1) := by decide +kernel
theorem dX1_run_44 : decode cX1_run 44 = .ok (.ldc 94, 2) := by decide +kernel
theorem dX1_run_46 : decode cX1_run 46 = .ok (.if_icmp .ge 30, 3) := by decide +kernel
theorem dX1_run_49 : decode cX1_run 49 = .ok (.iload_n 1, 1) := by decide +kernel
theorem dX1_run_50 : decode cX1_run 50 = .ok (.ifCond .eq 26, 3) := by decide +kernel
theorem dX1_run_53 : decode cX1_run 53 = .ok (.aload_n 0, 1) := by decide +kernel
theorem dX1_run_54 : decode cX1_run 54 = .ok (.invokevirtual 95, 3) := by decide +kernel
theorem dX1_run_57 : decode cX1_run 57 = .ok (.aload_n 0, 1) := by decide +kernel
theorem dX1_run_58 : decode cX1_run 58 = .ok (.invokevirtual 98, 3) := by decide +kernel
theorem dX1_run_61 : decode cX1_run 61 = .ok (.istore_n 1, 1) := by decide +kernel
theorem dX1_run_62 : decode cX1_run 62 = .ok (.iload_n 1, 1) := by decide +kernel
theorem dX1_run_63 : decode cX1_run 63 = .ok (.ifCond .eq 7, 3) := by decide +kernel
theorem dX1_run_66 : decode cX1_run 66 = .ok (.aload_n 0, 1) := by decide +kernel
theorem dX1_run_67 : decode cX1_run 67 = .ok (.invokevirtual 102, 3) := by decide +kernel
theorem dX1_run_70 : decode cX1_run 70 = .ok (.iinc 2 1, 3) := by decide +kernel
theorem dX1_run_73 : decode cX1_run 73 = .ok (.goto (-30), 3) := by decide +kernel
theorem dX1_run_76 : decode cX1_run 76 = .ok (.return_, 1) := by decide +kernel
theorem dX1_measure_0 : decode cX1_measure 0 = .ok (.iconst 0, 1) := by decide +kernel
theorem dX1_measure_1 : decode cX1_measure 1 = .ok (.istore_n 1, 1) := by decide +kernel
theorem dX1_measure_2 : decode cX1_measure 2 = .ok (.iload_n 1, 1) := by decide +kernel
theorem dX1_measure_3 : decode cX1_measure 3 = .ok (.aload_n 0, 1) := by decide +kernel
theorem dX1_measure_4 : decode cX1_measure 4 = .ok (.getfield 46, 3) := by decide +kernel
theorem dX1_measure_7 : decode cX1_measure 7 = .ok (.if_icmp .ge 45, 3) := by decide +kernel
theorem dX1_measure_10 : decode cX1_measure 10 = .ok (.aload_n 0, 1) := by decide +kernel
theorem dX1_measure_11 : decode cX1_measure 11 = .ok (.getfield 27, 3) := by decide +kernel
theorem dX1_measure_14 : decode cX1_measure 14 = .ok (.iload_n 1, 1) := by decide +kernel
theorem dX1_measure_15 : decode cX1_measure 15 = .ok (.iconst 0, 1) := by decide +kernel
theorem dX1_measure_16 : decode cX1_measure 16 = .ok (.iastore, 1) := by decide +kernel
theorem dX1_measure_17 : decode cX1_measure 17 = .ok (.aload_n 0, 1) := by decide +kernel
theorem dX1_measure_18 : decode cX1_measure 18 = .ok (.getfield 30, 3) := by decide +kernel
theorem dX1_measure_21 : decode cX1_measure 21 = .ok (.iload_n 1, 1) := by decide +kernel
theorem dX1_measure_22 : decode cX1_measure 22 = .ok (.aload_n 0, 1) := by decide +kernel
theorem dX1_measure_23 : decode cX1_measure 23 = .ok (.getfield 9, 3) := by decide +kernel
theorem dX1_measure_26 : decode cX1_measure 26 = .ok (.iload_n 1, 1) := by decide +kernel
theorem dX1_measure_27 : decode cX1_measure 27 = .ok (.iaload, 1) := by decide +kernel
theorem dX1_measure_28 : decode cX1_measure 28 = .ok (.ifCond .le 16, 3) := by decide +kernel
theorem dX1_measure_31 : decode cX1_measure 31 = .ok (.aload_n 0, 1) := by decide +kernel
theorem dX1_measure_32 : decode cX1_measure 32 = .ok (.getfield 15, 3) := by decide +kernel
theorem dX1_measure_35 : decode cX1_measure 35 = .ok (.iload_n 1, 1) := by decide +kernel
theorem dX1_measure_36 : decode cX1_measure 36 = .ok (.iaload, 1) := by decide +kernel
theorem dX1_measure_37 : decode cX1_measure 37 = .ok (.ifCond .le 7, 3) := by decide +kernel
theorem dX1_measure_40 : decode cX1_measure 40 = .ok (.iconst 1, 1) := by decide +kernel
theorem dX1_measure_41 : decode cX1_measure 41 = .ok (.goto 4, 3) := by decide +kernel
theorem dX1_measure_44 : decode cX1_measure 44 = .ok (.iconst 0, 1) := by decide +kernel
theorem dX1_measure_45 : decode cX1_measure 45 = .ok (.iastore, 1) := by decide +kernel
theorem dX1_measure_46 : decode cX1_measure 46 = .ok (.iinc 1 1, 3) := by decide +kernel
theorem dX1_measure_49 : decode cX1_measure 49 = .ok (.goto (-47), 3) := by decide +kernel
theorem dX1_measure_52 : decode cX1_measure 52 = .ok (.iconst 1, 1) := by decide +kernel
theorem dX1_measure_53 : decode cX1_measure 53 = .ok (.istore_n 1, 1) := by decide +kernel
theorem dX1_measure_54 : decode cX1_measure 54 = .ok (.iconst 0, 1) := by decide +kernel
theorem dX1_measure_55 : decode cX1_measure 55 = .ok (.istore_n 2, 1) := by decide +kernel
theorem dX1_measure_56 : decode cX1_measure 56 = .ok (.iload_n 2, 1) := by decide +kernel
theorem dX1_measure_57 : decode cX1_measure 57 = .ok (.aload_n 0, 1) := by decide +kernel
theorem dX1_measure_58 : decode cX1_measure 58 = .ok (.getfield 46, 3) := by decide +kernel
theorem dX1_measure_61 : decode cX1_measure 61 = .ok (.if_icmp .gt 18, 3) := by decide +kernel
theorem dX1_measure_64 : decode cX1_measure 64 = .ok (.iload_n 1, 1) := by decide +kernel
theorem dX1_measure_65 : decode cX1_measure 65 = .ok (.ifCond .eq 14, 3) := by decide +kernel
theorem dX1_measure_68 : decode cX1_measure 68 = .ok (.aload_n 0, 1) := by decide +kernel
theorem dX1_measure_69 : decode cX1_measure 69 = .ok (.invokevirtual 105, 3) := by decide +kernel
theorem dX1_measure_72 : decode cX1_measure 72 = .ok (.istore_n 1, 1) := by decide +kernel
theorem dX1_measure_73 : decode cX1_measure 73 = .ok (.iinc 2 1, 3) := by decide +kernel
theorem dX1_measure_76 : decode cX1_measure 76 = .ok (.goto (-20), 3) := by decide +kernel
theorem dX1_measure_79 : decode cX1_measure 79 = .ok (.return_, 1) := by decide +kernel
theorem dX1_improveAll_0 : decode cX1_improveAll 0 = .ok (.iconst 0, 1) := by decide +kernel
theorem dX1_improveAll_1 : decode cX1_improveAll 1 = .ok (.istore_n 1, 1) := by decide +kernel
theorem dX1_improveAll_2 : decode cX1_improveAll 2 = .ok (.iconst 0, 1) := by decide +kernel
theorem dX1_improveAll_3 : decode cX1_improveAll 3 = .ok (.istore_n 2, 1) := by decide +kernel
theorem dX1_improveAll_4 : decode cX1_improveAll 4 = .ok (.iload_n 2, 1) := by decide +kernel
theorem dX1_improveAll_5 : decode cX1_improveAll 5 = .ok (.aload_n 0, 1) := by decide +kernel
theorem dX1_improveAll_6 : decode cX1_improveAll 6 = .ok (.getfield 46, 3) := by decide +kernel
theorem dX1_improveAll_9 : decode cX1_improveAll 9 = .ok (.if_icmp .ge 120, 3) := by decide +kernel
theorem dX1_improveAll_12 : decode cX1_improveAll 12 = .ok (.iconst 0, 1) := by decide +kernel
theorem dX1_improveAll_13 : decode cX1_improveAll 13 = .ok (.istore_n 3, 1) := by decide +kernel
theorem dX1_improveAll_14 : decode cX1_improveAll 14 = .ok (.aload_n 0, 1) := by decide +kernel
theorem dX1_improveAll_15 : decode cX1_improveAll 15 = .ok (.getfield 9, 3) := by decide +kernel
theorem dX1_improveAll_18 : decode cX1_improveAll 18 = .ok (.iload_n 2, 1) := by decide +kernel
theorem dX1_improveAll_19 : decode cX1_improveAll 19 = .ok (.iaload, 1) := by decide +kernel
theorem dX1_improveAll_20 : decode cX1_improveAll 20 = .ok (.ifCond .ge 103, 3) := by decide +kernel
theorem dX1_improveAll_23 : decode cX1_improveAll 23 = .ok (.iload_n 3, 1) := by decide +kernel
theorem dX1_improveAll_24 : decode cX1_improveAll 24 = .ok (.aload_n 0, 1) := by decide +kernel
theorem dX1_improveAll_25 : decode cX1_improveAll 25 = .ok (.getfield 46, 3) := by decide +kernel
theorem dX1_improveAll_28 : decode cX1_improveAll 28 = .ok (.if_icmp .ge 95, 3) := by decide +kernel
theorem dX1_improveAll_31 : decode cX1_improveAll 31 = .ok (.iload_n 2, 1) := by decide +kernel
theorem dX1_improveAll_32 : decode cX1_improveAll 32 = .ok (.bipush 12, 2) := by decide +kernel
theorem dX1_improveAll_34 : decode cX1_improveAll 34 = .ok (.imul, 1) := by decide +kernel
theorem dX1_improveAll_35 : decode cX1_improveAll 35 = .ok (.iload_n 3, 1) := by decide +kernel
theorem dX1_improveAll_36 : decode cX1_improveAll 36 = .ok (.iadd, 1) := by decide +kernel
theorem dX1_improveAll_37 : decode cX1_improveAll 37 = .ok (.istore 4, 2) := by decide +kernel
theorem dX1_improveAll_39 : decode cX1_improveAll 39 = .ok (.aload_n 0, 1) := by decide +kernel
theorem dX1_improveAll_40 : decode cX1_improveAll 40 = .ok (.getfield 9, 3) := by decide +kernel
theorem dX1_improveAll_43 : decode cX1_improveAll 43 = .ok (.iload_n 3, 1) := by decide +kernel
theorem dX1_improveAll_44 : decode cX1_improveAll 44 = .ok (.iaload, 1) := by decide +kernel
theorem dX1_improveAll_45 : decode cX1_improveAll 45 = .ok (.ifCond .le 36, 3) := by decide +kernel
theorem dX1_improveAll_48 : decode cX1_improveAll 48 = .ok (.aload_n 0, 1) := by decide +kernel
theorem dX1_improveAll_49 : decode cX1_improveAll 49 = .ok (.getfield 24, 3) := by decide +kernel
theorem dX1_improveAll_52 : decode cX1_improveAll 52 = .ok (.iload 4, 2) := by decide +kernel
theorem dX1_improveAll_54 : decode cX1_improveAll 54 = .ok (.iaload, 1) := by decide +kernel
theorem dX1_improveAll_55 : decode cX1_improveAll 55 = .ok (.aload_n 0, 1) := by decide +kernel
theorem dX1_improveAll_56 : decode cX1_improveAll 56 = .ok (.getfield 18, 3) := by decide +kernel
theorem dX1_improveAll_59 : decode cX1_improveAll 59 = .ok (.iload 4, 2) := by decide +kernel
theorem dX1_improveAll_61 : decode cX1_improveAll 61 = .ok (.iaload, 1) := by decide +kernel
theorem dX1_improveAll_62 : decode cX1_improveAll 62 = .ok (.if_icmp .ge 19, 3) := by decide +kernel
theorem dX1_improveAll_65 : decode cX1_improveAll 65 = .ok (.iload_n 1, 1) := by decide +kernel
theorem dX1_improveAll_66 : decode cX1_improveAll 66 = .ok (.aload_n 0, 1) := by decide +kernel
theorem dX1_improveAll_67 : decode cX1_improveAll 67 = .ok (.iload_n 2, 1) := by decide +kernel
theorem dX1_improveAll_68 : decode cX1_improveAll 68 = .ok (.iload_n 3, 1) := by decide +kernel
theorem dX1_improveAll_69 : decode cX1_improveAll 69 = .ok (.aload_n 0, 1) := by decide +kernel
theorem dX1_improveAll_70 : decode cX1_improveAll 70 = .ok (.getfield 21, 3) := by decide +kernel
theorem dX1_improveAll_73 : decode cX1_improveAll 73 = .ok (.iload 4, 2) := by decide +kernel
theorem dX1_improveAll_75 : decode cX1_improveAll 75 = .ok (.iaload, 1) := by decide +kernel
theorem dX1_improveAll_76 : decode cX1_improveAll 76 = .ok (.invokevirtual 108, 3) := by decide +kernel
theorem dX1_improveAll_79 : decode cX1_improveAll 79 = .ok (.ior, 1) := by decide +kernel
theorem dX1_improveAll_80 : decode cX1_improveAll 80 = .ok (.istore_n 1, 1) := by decide +kernel
theorem dX1_improveAll_81 : decode cX1_improveAll 81 = .ok (.aload_n 0, 1) := by decide +kernel
theorem dX1_improveAll_82 : decode cX1_improveAll 82 = .ok (.getfield 9, 3) := by decide +kernel
theorem dX1_improveAll_85 : decode cX1_improveAll 85 = .ok (.iload_n 3, 1) := by decide +kernel
theorem dX1_improveAll_86 : decode cX1_improveAll 86 = .ok (.iaload, 1) := by decide +kernel
theorem dX1_improveAll_87 : decode cX1_improveAll 87 = .ok (.ifCond .le 30, 3) := by decide +kernel
theorem dX1_improveAll_90 : decode cX1_improveAll 90 = .ok (.aload_n 0, 1) := by decide +kernel
theorem dX1_improveAll_91 : decode cX1_improveAll 91 = .ok (.getfield 24, 3) := by decide +kernel
theorem dX1_improveAll_94 : decode cX1_improveAll 94 = .ok (.iload 4, 2) := by decide +kernel
theorem dX1_improveAll_96 : decode cX1_improveAll 96 = .ok (.iaload, 1) := by decide +kernel
theorem dX1_improveAll_97 : decode cX1_improveAll 97 = .ok (.ifCond .le 20, 3) := by decide +kernel
theorem dX1_improveAll_100 : decode cX1_improveAll 100 = .ok (.iload_n 1, 1) := by decide +kernel
theorem dX1_improveAll_101 : decode cX1_improveAll 101 = .ok (.aload_n 0, 1) := by decide +kernel
theorem dX1_improveAll_102 : decode cX1_improveAll 102 = .ok (.iload_n 3, 1) := by decide +kernel
theorem dX1_improveAll_103 : decode cX1_improveAll 103 = .ok (.iload_n 2, 1) := by decide +kernel
theorem dX1_improveAll_104 : decode cX1_improveAll 104 = .ok (.aload_n 0, 1) := by decide +kernel
theorem dX1_improveAll_105 : decode cX1_improveAll 105 = .ok (.getfield 21, 3) := by decide +kernel
theorem dX1_improveAll_108 : decode cX1_improveAll 108 = .ok (.iload 4, 2) := by decide +kernel
theorem dX1_improveAll_110 : decode cX1_improveAll 110 = .ok (.iaload, 1) := by decide +kernel
theorem dX1_improveAll_111 : decode cX1_improveAll 111 = .ok (.ineg, 1) := by decide +kernel
theorem dX1_improveAll_112 : decode cX1_improveAll 112 = .ok (.invokevirtual 108, 3) := by decide +kernel
theorem dX1_improveAll_115 : decode cX1_improveAll 115 = .ok (.ior, 1) := by decide +kernel
theorem dX1_improveAll_116 : decode cX1_improveAll 116 = .ok (.istore_n 1, 1) := by decide +kernel
theorem dX1_improveAll_117 : decode cX1_improveAll 117 = .ok (.iinc 3 1, 3) := by decide +kernel
theorem dX1_improveAll_120 : decode cX1_improveAll 120 = .ok (.goto (-106), 3) := by decide +kernel
theorem dX1_improveAll_123 : decode cX1_improveAll 123 = .ok (.iinc 2 1, 3) := by decide +kernel
theorem dX1_improveAll_126 : decode cX1_improveAll 126 = .ok (.goto (-122), 3) := by decide +kernel
theorem dX1_improveAll_129 : decode cX1_improveAll 129 = .ok (.iload_n 1, 1) := by decide +kernel
theorem dX1_improveAll_130 : decode cX1_improveAll 130 = .ok (.ireturn, 1) := by decide +kernel
theorem dX1_improve_0 : decode cX1_improve 0 = .ok (.aload_n 0, 1) := by decide +kernel
theorem dX1_improve_1 : decode cX1_improve 1 = .ok (.getfield 30, 3) := by decide +kernel
theorem dX1_improve_4 : decode cX1_improve 4 = .ok (.iload_n 2, 1) := by decide +kernel
theorem dX1_improve_5 : decode cX1_improve 5 = .ok (.iaload, 1) := by decide +kernel
theorem dX1_improve_6 : decode cX1_improve 6 = .ok (.ifCond .ne 5, 3) := by decide +kernel
theorem dX1_improve_9 : decode cX1_improve 9 = .ok (.iconst 0, 1) := by decide +kernel
theorem dX1_improve_10 : decode cX1_improve 10 = .ok (.ireturn, 1) := by decide +kernel
theorem dX1_improve_11 : decode cX1_improve 11 = .ok (.aload_n 0, 1) := by decide +kernel
theorem dX1_improve_12 : decode cX1_improve 12 = .ok (.getfield 27, 3) := by decide +kernel
theorem dX1_improve_15 : decode cX1_improve 15 = .ok (.iload_n 2, 1) := by decide +kernel
theorem dX1_improve_16 : decode cX1_improve 16 = .ok (.iaload, 1) := by decide +kernel
theorem dX1_improve_17 : decode cX1_improve 17 = .ok (.iload_n 3, 1) := by decide +kernel
theorem dX1_improve_18 : decode cX1_improve 18 = .ok (.iadd, 1) := by decide +kernel
theorem dX1_improve_19 : decode cX1_improve 19 = .ok (.istore 4, 2) := by decide +kernel
theorem dX1_improve_21 : decode cX1_improve 21 = .ok (.aload_n 0, 1) := by decide +kernel
theorem dX1_improve_22 : decode cX1_improve 22 = .ok (.getfield 30, 3) := by decide +kernel
theorem dX1_improve_25 : decode cX1_improve 25 = .ok (.iload_n 2, 1) := by decide +kernel
theorem dX1_improve_26 : decode cX1_improve 26 = .ok (.iaload, 1) := by decide +kernel
theorem dX1_improve_27 : decode cX1_improve 27 = .ok (.iconst 1, 1) := by decide +kernel
theorem dX1_improve_28 : decode cX1_improve 28 = .ok (.iadd, 1) := by decide +kernel
theorem dX1_improve_29 : decode cX1_improve 29 = .ok (.istore 5, 2) := by decide +kernel
theorem dX1_improve_31 : decode cX1_improve 31 = .ok (.aload_n 0, 1) := by decide +kernel
theorem dX1_improve_32 : decode cX1_improve 32 = .ok (.getfield 30, 3) := by decide +kernel
theorem dX1_improve_35 : decode cX1_improve 35 = .ok (.iload_n 1, 1) := by decide +kernel
theorem dX1_improve_36 : decode cX1_improve 36 = .ok (.iaload, 1) := by decide +kernel
theorem dX1_improve_37 : decode cX1_improve 37 = .ok (.ifCond .eq 17, 3) := by decide +kernel
theorem dX1_improve_40 : decode cX1_improve 40 = .ok (.aload_n 0, 1) := by decide +kernel
theorem dX1_improve_41 : decode cX1_improve 41 = .ok (.iload 4, 2) := by decide +kernel
theorem dX1_improve_43 : decode cX1_improve 43 = .ok (.iload 5, 2) := by decide +kernel
theorem dX1_improve_45 : decode cX1_improve 45 = .ok (.iload_n 1, 1) := by decide +kernel
theorem dX1_improve_46 : decode cX1_improve 46 = .ok (.invokevirtual 112, 3) := by decide +kernel
theorem dX1_improve_49 : decode cX1_improve 49 = .ok (.ifCond .ne 5, 3) := by decide +kernel
theorem dX1_improve_52 : decode cX1_improve 52 = .ok (.iconst 0, 1) := by decide +kernel
theorem dX1_improve_53 : decode cX1_improve 53 = .ok (.ireturn, 1) := by decide +kernel
theorem dX1_improve_54 : decode cX1_improve 54 = .ok (.aload_n 0, 1) := by decide +kernel
theorem dX1_improve_55 : decode cX1_improve 55 = .ok (.getfield 27, 3) := by decide +kernel
theorem dX1_improve_58 : decode cX1_improve 58 = .ok (.iload_n 1, 1) := by decide +kernel
theorem dX1_improve_59 : decode cX1_improve 59 = .ok (.iload 4, 2) := by decide +kernel
theorem dX1_improve_61 : decode cX1_improve 61 = .ok (.iastore, 1) := by decide +kernel
theorem dX1_improve_62 : decode cX1_improve 62 = .ok (.aload_n 0, 1) := by decide +kernel
theorem dX1_improve_63 : decode cX1_improve 63 = .ok (.getfield 30, 3) := by decide +kernel
theorem dX1_improve_66 : decode cX1_improve 66 = .ok (.iload_n 1, 1) := by decide +kernel
theorem dX1_improve_67 : decode cX1_improve 67 = .ok (.iload 5, 2) := by decide +kernel
theorem dX1_improve_69 : decode cX1_improve 69 = .ok (.iastore, 1) := by decide +kernel
theorem dX1_improve_70 : decode cX1_improve 70 = .ok (.iconst 1, 1) := by decide +kernel
theorem dX1_improve_71 : decode cX1_improve 71 = .ok (.ireturn, 1) := by decide +kernel
theorem dX1_isBetter_0 : decode cX1_isBetter 0 = .ok (.iload_n 1, 1) := by decide +kernel
theorem dX1_isBetter_1 : decode cX1_isBetter 1 = .ok (.aload_n 0, 1) := by decide +kernel
theorem dX1_isBetter_2 : decode cX1_isBetter 2 = .ok (.getfield 27, 3) := by decide +kernel
theorem dX1_isBetter_5 : decode cX1_isBetter 5 = .ok (.iload_n 3, 1) := by decide +kernel
theorem dX1_isBetter_6 : decode cX1_isBetter 6 = .ok (.iaload, 1) := by decide +kernel
theorem dX1_isBetter_7 : decode cX1_isBetter 7 = .ok (.if_icmp .lt 23, 3) := by decide +kernel
theorem dX1_isBetter_10 : decode cX1_isBetter 10 = .ok (.iload_n 1, 1) := by decide +kernel
theorem dX1_isBetter_11 : decode cX1_isBetter 11 = .ok (.aload_n 0, 1) := by decide +kernel
theorem dX1_isBetter_12 : decode cX1_isBetter 12 = .ok (.getfield 27, 3) := by decide +kernel
theorem dX1_isBetter_15 : decode cX1_isBetter 15 = .ok (.iload_n 3, 1) := by decide +kernel
theorem dX1_isBetter_16 : decode cX1_isBetter 16 = .ok (.iaload, 1) := by decide +kernel
theorem dX1_isBetter_17 : decode cX1_isBetter 17 = .ok (.if_icmp .ne 17, 3) := by decide +kernel
theorem dX1_isBetter_20 : decode cX1_isBetter 20 = .ok (.iload_n 2, 1) := by decide +kernel
theorem dX1_isBetter_21 : decode cX1_isBetter 21 = .ok (.aload_n 0, 1) := by decide +kernel
theorem dX1_isBetter_22 : decode cX1_isBetter 22 = .ok (.getfield 30, 3) := by decide +kernel
theorem dX1_isBetter_25 : decode cX1_isBetter 25 = .ok (.iload_n 3, 1) := by decide +kernel
theorem dX1_isBetter_26 : decode cX1_isBetter 26 = .ok (.iaload, 1) := by decide +kernel
theorem dX1_isBetter_27 : decode cX1_isBetter 27 = .ok (.if_icmp .ge 7, 3) := by decide +kernel
theorem dX1_isBetter_30 : decode cX1_isBetter 30 = .ok (.iconst 1, 1) := by decide +kernel
theorem dX1_isBetter_31 : decode cX1_isBetter 31 = .ok (.goto 4, 3) := by decide +kernel
theorem dX1_isBetter_34 : decode cX1_isBetter 34 = .ok (.iconst 0, 1) := by decide +kernel
theorem dX1_isBetter_35 : decode cX1_isBetter 35 = .ok (.ireturn, 1) := by decide +kernel
theorem dX1_findRoute_0 : decode cX1_findRoute 0 = .ok (.iconst (-1), 1) := by decide +kernel
theorem dX1_findRoute_1 : decode cX1_findRoute 1 = .ok (.istore_n 1, 1) := by decide +kernel
theorem dX1_findRoute_2 : decode cX1_findRoute 2 = .ok (.iconst 0, 1) := by decide +kernel
theorem dX1_findRoute_3 : decode cX1_findRoute 3 = .ok (.istore_n 2, 1) := by decide +kernel
theorem dX1_findRoute_4 : decode cX1_findRoute 4 = .ok (.iload_n 2, 1) := by decide +kernel
theorem dX1_findRoute_5 : decode cX1_findRoute 5 = .ok (.aload_n 0, 1) := by decide +kernel
theorem dX1_findRoute_6 : decode cX1_findRoute 6 = .ok (.getfield 46, 3) := by decide +kernel
theorem dX1_findRoute_9 : decode cX1_findRoute 9 = .ok (.if_icmp .ge 72, 3) := by decide +kernel
theorem dX1_findRoute_12 : decode cX1_findRoute 12 = .ok (.aload_n 0, 1) := by decide +kernel
theorem dX1_findRoute_13 : decode cX1_findRoute 13 = .ok (.getfield 9, 3) := by decide +kernel
theorem dX1_findRoute_16 : decode cX1_findRoute 16 = .ok (.iload_n 2, 1) := by decide +kernel
theorem dX1_findRoute_17 : decode cX1_findRoute 17 = .ok (.iaload, 1) := by decide +kernel
theorem dX1_findRoute_18 : decode cX1_findRoute 18 = .ok (.ifCond .ge 25, 3) := by decide +kernel
theorem dX1_findRoute_21 : decode cX1_findRoute 21 = .ok (.aload_n 0, 1) := by decide +kernel
theorem dX1_findRoute_22 : decode cX1_findRoute 22 = .ok (.getfield 15, 3) := by decide +kernel
theorem dX1_findRoute_25 : decode cX1_findRoute 25 = .ok (.iload_n 2, 1) := by decide +kernel
theorem dX1_findRoute_26 : decode cX1_findRoute 26 = .ok (.iaload, 1) := by decide +kernel
theorem dX1_findRoute_27 : decode cX1_findRoute 27 = .ok (.ifCond .le 16, 3) := by decide +kernel
theorem dX1_findRoute_30 : decode cX1_findRoute 30 = .ok (.aload_n 0, 1) := by decide +kernel
theorem dX1_findRoute_31 : decode cX1_findRoute 31 = .ok (.getfield 30, 3) := by decide +kernel
theorem dX1_findRoute_34 : decode cX1_findRoute 34 = .ok (.iload_n 2, 1) := by decide +kernel
theorem dX1_findRoute_35 : decode cX1_findRoute 35 = .ok (.iaload, 1) := by decide +kernel
theorem dX1_findRoute_36 : decode cX1_findRoute 36 = .ok (.ifCond .le 7, 3) := by decide +kernel
theorem dX1_findRoute_39 : decode cX1_findRoute 39 = .ok (.iconst 1, 1) := by decide +kernel
theorem dX1_findRoute_40 : decode cX1_findRoute 40 = .ok (.goto 4, 3) := by decide +kernel
theorem dX1_findRoute_43 : decode cX1_findRoute 43 = .ok (.iconst 0, 1) := by decide +kernel
theorem dX1_findRoute_44 : decode cX1_findRoute 44 = .ok (.istore_n 3, 1) := by decide +kernel
theorem dX1_findRoute_45 : decode cX1_findRoute 45 = .ok (.iload_n 3, 1) := by decide +kernel
theorem dX1_findRoute_46 : decode cX1_findRoute 46 = .ok (.ifCond .eq 29, 3) := by decide +kernel
theorem dX1_findRoute_49 : decode cX1_findRoute 49 = .ok (.iload_n 1, 1) := by decide +kernel
theorem dX1_findRoute_50 : decode cX1_findRoute 50 = .ok (.ifCond .lt 23, 3) := by decide +kernel
theorem dX1_findRoute_53 : decode cX1_findRoute 53 = .ok (.aload_n 0, 1) := by decide +kernel
theorem dX1_findRoute_54 : decode cX1_findRoute 54 = .ok (.aload_n 0, 1) := by decide +kernel
theorem dX1_findRoute_55 : decode cX1_findRoute 55 = .ok (.getfield 27, 3) := by decide +kernel
theorem dX1_findRoute_58 : decode cX1_findRoute 58 = .ok (.iload_n 2, 1) := by decide +kernel
theorem dX1_findRoute_59 : decode cX1_findRoute 59 = .ok (.iaload, 1) := by decide +kernel
theorem dX1_findRoute_60 : decode cX1_findRoute 60 = .ok (.aload_n 0, 1) := by decide +kernel
theorem dX1_findRoute_61 : decode cX1_findRoute 61 = .ok (.getfield 30, 3) := by decide +kernel
theorem dX1_findRoute_64 : decode cX1_findRoute 64 = .ok (.iload_n 2, 1) := by decide +kernel
theorem dX1_findRoute_65 : decode cX1_findRoute 65 = .ok (.iaload, 1) := by decide +kernel
theorem dX1_findRoute_66 : decode cX1_findRoute 66 = .ok (.iload_n 1, 1) := by decide +kernel
theorem dX1_findRoute_67 : decode cX1_findRoute 67 = .ok (.invokevirtual 112, 3) := by decide +kernel
theorem dX1_findRoute_70 : decode cX1_findRoute 70 = .ok (.ifCond .eq 5, 3) := by decide +kernel
theorem dX1_findRoute_73 : decode cX1_findRoute 73 = .ok (.iload_n 2, 1) := by decide +kernel
theorem dX1_findRoute_74 : decode cX1_findRoute 74 = .ok (.istore_n 1, 1) := by decide +kernel
theorem dX1_findRoute_75 : decode cX1_findRoute 75 = .ok (.iinc 2 1, 3) := by decide +kernel
theorem dX1_findRoute_78 : decode cX1_findRoute 78 = .ok (.goto (-74), 3) := by decide +kernel
theorem dX1_findRoute_81 : decode cX1_findRoute 81 = .ok (.aload_n 0, 1) := by decide +kernel
theorem dX1_findRoute_82 : decode cX1_findRoute 82 = .ok (.iconst 0, 1) := by decide +kernel
theorem dX1_findRoute_83 : decode cX1_findRoute 83 = .ok (.putfield 39, 3) := by decide +kernel
theorem dX1_findRoute_86 : decode cX1_findRoute 86 = .ok (.iload_n 1, 1) := by decide +kernel
theorem dX1_findRoute_87 : decode cX1_findRoute 87 = .ok (.istore_n 2, 1) := by decide +kernel
theorem dX1_findRoute_88 : decode cX1_findRoute 88 = .ok (.iconst 0, 1) := by decide +kernel
theorem dX1_findRoute_89 : decode cX1_findRoute 89 = .ok (.istore_n 3, 1) := by decide +kernel
theorem dX1_findRoute_90 : decode cX1_findRoute 90 = .ok (.iload_n 3, 1) := by decide +kernel
theorem dX1_findRoute_91 : decode cX1_findRoute 91 = .ok (.bipush 12, 2) := by decide +kernel
theorem dX1_findRoute_93 : decode cX1_findRoute 93 = .ok (.if_icmp .ge 47, 3) := by decide +kernel
theorem dX1_findRoute_96 : decode cX1_findRoute 96 = .ok (.iload_n 2, 1) := by decide +kernel
theorem dX1_findRoute_97 : decode cX1_findRoute 97 = .ok (.ifCond .lt 43, 3) := by decide +kernel
theorem dX1_findRoute_100 : decode cX1_findRoute 100 = .ok (.aload_n 0, 1) := by decide +kernel
theorem dX1_findRoute_101 : decode cX1_findRoute 101 = .ok (.getfield 33, 3) := by decide +kernel
theorem dX1_findRoute_104 : decode cX1_findRoute 104 = .ok (.iload_n 3, 1) := by decide +kernel
theorem dX1_findRoute_105 : decode cX1_findRoute 105 = .ok (.iload_n 2, 1) := by decide +kernel
theorem dX1_findRoute_106 : decode cX1_findRoute 106 = .ok (.iastore, 1) := by decide +kernel
theorem dX1_findRoute_107 : decode cX1_findRoute 107 = .ok (.aload_n 0, 1) := by decide +kernel
theorem dX1_findRoute_108 : decode cX1_findRoute 108 = .ok (.iload_n 3, 1) := by decide +kernel
theorem dX1_findRoute_109 : decode cX1_findRoute 109 = .ok (.iconst 1, 1) := by decide +kernel
theorem dX1_findRoute_110 : decode cX1_findRoute 110 = .ok (.iadd, 1) := by decide +kernel
theorem dX1_findRoute_111 : decode cX1_findRoute 111 = .ok (.putfield 39, 3) := by decide +kernel
theorem dX1_findRoute_114 : decode cX1_findRoute 114 = .ok (.aload_n 0, 1) := by decide +kernel
theorem dX1_findRoute_115 : decode cX1_findRoute 115 = .ok (.getfield 30, 3) := by decide +kernel
theorem dX1_findRoute_118 : decode cX1_findRoute 118 = .ok (.iload_n 2, 1) := by decide +kernel
theorem dX1_findRoute_119 : decode cX1_findRoute 119 = .ok (.iaload, 1) := by decide +kernel
theorem dX1_findRoute_120 : decode cX1_findRoute 120 = .ok (.iconst 1, 1) := by decide +kernel
theorem dX1_findRoute_121 : decode cX1_findRoute 121 = .ok (.if_icmp .le 11, 3) := by decide +kernel
theorem dX1_findRoute_124 : decode cX1_findRoute 124 = .ok (.aload_n 0, 1) := by decide +kernel
theorem dX1_findRoute_125 : decode cX1_findRoute 125 = .ok (.iload_n 2, 1) := by decide +kernel
theorem dX1_findRoute_126 : decode cX1_findRoute 126 = .ok (.invokevirtual 115, 3) := by decide +kernel
theorem dX1_findRoute_129 : decode cX1_findRoute 129 = .ok (.goto 4, 3) := by decide +kernel
theorem dX1_findRoute_132 : decode cX1_findRoute 132 = .ok (.iconst (-1), 1) := by decide +kernel
theorem dX1_findRoute_133 : decode cX1_findRoute 133 = .ok (.istore_n 2, 1) := by decide +kernel
theorem dX1_findRoute_134 : decode cX1_findRoute 134 = .ok (.iinc 3 1, 3) := by decide +kernel
theorem dX1_findRoute_137 : decode cX1_findRoute 137 = .ok (.goto (-47), 3) := by decide +kernel
theorem dX1_findRoute_140 : decode cX1_findRoute 140 = .ok (.aload_n 0, 1) := by decide +kernel
theorem dX1_findRoute_141 : decode cX1_findRoute 141 = .ok (.getfield 39, 3) := by decide +kernel
theorem dX1_findRoute_144 : decode cX1_findRoute 144 = .ok (.iconst 1, 1) := by decide +kernel
theorem dX1_findRoute_145 : decode cX1_findRoute 145 = .ok (.if_icmp .le 27, 3) := by decide +kernel
theorem dX1_findRoute_148 : decode cX1_findRoute 148 = .ok (.aload_n 0, 1) := by decide +kernel
theorem dX1_findRoute_149 : decode cX1_findRoute 149 = .ok (.getfield 30, 3) := by decide +kernel
theorem dX1_findRoute_152 : decode cX1_findRoute 152 = .ok (.aload_n 0, 1) := by decide +kernel
theorem dX1_findRoute_153 : decode cX1_findRoute 153 = .ok (.getfield 33, 3) := by decide +kernel
theorem dX1_findRoute_156 : decode cX1_findRoute 156 = .ok (.aload_n 0, 1) := by decide +kernel
theorem dX1_findRoute_157 : decode cX1_findRoute 157 = .ok (.getfield 39, 3) := by decide +kernel
theorem dX1_findRoute_160 : decode cX1_findRoute 160 = .ok (.iconst 1, 1) := by decide +kernel
theorem dX1_findRoute_161 : decode cX1_findRoute 161 = .ok (.isub, 1) := by decide +kernel
theorem dX1_findRoute_162 : decode cX1_findRoute 162 = .ok (.iaload, 1) := by decide +kernel
theorem dX1_findRoute_163 : decode cX1_findRoute 163 = .ok (.iaload, 1) := by decide +kernel
theorem dX1_findRoute_164 : decode cX1_findRoute 164 = .ok (.iconst 1, 1) := by decide +kernel
theorem dX1_findRoute_165 : decode cX1_findRoute 165 = .ok (.if_icmp .ne 7, 3) := by decide +kernel
theorem dX1_findRoute_168 : decode cX1_findRoute 168 = .ok (.iconst 1, 1) := by decide +kernel
theorem dX1_findRoute_169 : decode cX1_findRoute 169 = .ok (.goto 4, 3) := by decide +kernel
theorem dX1_findRoute_172 : decode cX1_findRoute 172 = .ok (.iconst 0, 1) := by decide +kernel
theorem dX1_findRoute_173 : decode cX1_findRoute 173 = .ok (.ireturn, 1) := by decide +kernel
theorem dX1_followerOf_0 : decode cX1_followerOf 0 = .ok (.iconst 0, 1) := by decide +kernel
theorem dX1_followerOf_1 : decode cX1_followerOf 1 = .ok (.istore_n 2, 1) := by decide +kernel
theorem dX1_followerOf_2 : decode cX1_followerOf 2 = .ok (.iload_n 2, 1) := by decide +kernel
theorem dX1_followerOf_3 : decode cX1_followerOf 3 = .ok (.aload_n 0, 1) := by decide +kernel
theorem dX1_followerOf_4 : decode cX1_followerOf 4 = .ok (.getfield 46, 3) := by decide +kernel
theorem dX1_followerOf_7 : decode cX1_followerOf 7 = .ok (.if_icmp .ge 102, 3) := by decide +kernel
theorem dX1_followerOf_10 : decode cX1_followerOf 10 = .ok (.aload_n 0, 1) := by decide +kernel
theorem dX1_followerOf_11 : decode cX1_followerOf 11 = .ok (.getfield 9, 3) := by decide +kernel
theorem dX1_followerOf_14 : decode cX1_followerOf 14 = .ok (.iload_n 1, 1) := by decide +kernel
theorem dX1_followerOf_15 : decode cX1_followerOf 15 = .ok (.iaload, 1) := by decide +kernel
theorem dX1_followerOf_16 : decode cX1_followerOf 16 = .ok (.ifCond .ge 17, 3) := by decide +kernel
theorem dX1_followerOf_19 : decode cX1_followerOf 19 = .ok (.aload_n 0, 1) := by decide +kernel
theorem dX1_followerOf_20 : decode cX1_followerOf 20 = .ok (.getfield 21, 3) := by decide +kernel
theorem dX1_followerOf_23 : decode cX1_followerOf 23 = .ok (.iload_n 1, 1) := by decide +kernel
theorem dX1_followerOf_24 : decode cX1_followerOf 24 = .ok (.bipush 12, 2) := by decide +kernel
theorem dX1_followerOf_26 : decode cX1_followerOf 26 = .ok (.imul, 1) := by decide +kernel
theorem dX1_followerOf_27 : decode cX1_followerOf 27 = .ok (.iload_n 2, 1) := by decide +kernel
theorem dX1_followerOf_28 : decode cX1_followerOf 28 = .ok (.iadd, 1) := by decide +kernel
theorem dX1_followerOf_29 : decode cX1_followerOf 29 = .ok (.iaload, 1) := by decide +kernel
theorem dX1_followerOf_30 : decode cX1_followerOf 30 = .ok (.goto 15, 3) := by decide +kernel
theorem dX1_followerOf_33 : decode cX1_followerOf 33 = .ok (.aload_n 0, 1) := by decide +kernel
theorem dX1_followerOf_34 : decode cX1_followerOf 34 = .ok (.getfield 21, 3) := by decide +kernel
theorem dX1_followerOf_37 : decode cX1_followerOf 37 = .ok (.iload_n 2, 1) := by decide +kernel
theorem dX1_followerOf_38 : decode cX1_followerOf 38 = .ok (.bipush 12, 2) := by decide +kernel
theorem dX1_followerOf_40 : decode cX1_followerOf 40 = .ok (.imul, 1) := by decide +kernel
theorem dX1_followerOf_41 : decode cX1_followerOf 41 = .ok (.iload_n 1, 1) := by decide +kernel
theorem dX1_followerOf_42 : decode cX1_followerOf 42 = .ok (.iadd, 1) := by decide +kernel
theorem dX1_followerOf_43 : decode cX1_followerOf 43 = .ok (.iaload, 1) := by decide +kernel
theorem dX1_followerOf_44 : decode cX1_followerOf 44 = .ok (.ineg, 1) := by decide +kernel
theorem dX1_followerOf_45 : decode cX1_followerOf 45 = .ok (.istore_n 3, 1) := by decide +kernel
theorem dX1_followerOf_46 : decode cX1_followerOf 46 = .ok (.aload_n 0, 1) := by decide +kernel
theorem dX1_followerOf_47 : decode cX1_followerOf 47 = .ok (.getfield 30, 3) := by decide +kernel
theorem dX1_followerOf_50 : decode cX1_followerOf 50 = .ok (.iload_n 2, 1) := by decide +kernel
theorem dX1_followerOf_51 : decode cX1_followerOf 51 = .ok (.iaload, 1) := by decide +kernel
theorem dX1_followerOf_52 : decode cX1_followerOf 52 = .ok (.aload_n 0, 1) := by decide +kernel
theorem dX1_followerOf_53 : decode cX1_followerOf 53 = .ok (.getfield 30, 3) := by decide +kernel
theorem dX1_followerOf_56 : decode cX1_followerOf 56 = .ok (.iload_n 1, 1) := by decide +kernel
theorem dX1_followerOf_57 : decode cX1_followerOf 57 = .ok (.iaload, 1) := by decide +kernel
theorem dX1_followerOf_58 : decode cX1_followerOf 58 = .ok (.iconst 1, 1) := by decide +kernel
theorem dX1_followerOf_59 : decode cX1_followerOf 59 = .ok (.isub, 1) := by decide +kernel
theorem dX1_followerOf_60 : decode cX1_followerOf 60 = .ok (.if_icmp .ne 24, 3) := by decide +kernel
theorem dX1_followerOf_63 : decode cX1_followerOf 63 = .ok (.aload_n 0, 1) := by decide +kernel
theorem dX1_followerOf_64 : decode cX1_followerOf 64 = .ok (.getfield 27, 3) := by decide +kernel
theorem dX1_followerOf_67 : decode cX1_followerOf 67 = .ok (.iload_n 2, 1) := by decide +kernel
theorem dX1_followerOf_68 : decode cX1_followerOf 68 = .ok (.iaload, 1) := by decide +kernel
theorem dX1_followerOf_69 : decode cX1_followerOf 69 = .ok (.iload_n 3, 1) := by decide +kernel
theorem dX1_followerOf_70 : decode cX1_followerOf 70 = .ok (.iadd, 1) := by decide +kernel
theorem dX1_followerOf_71 : decode cX1_followerOf 71 = .ok (.aload_n 0, 1) := by decide +kernel
theorem dX1_followerOf_72 : decode cX1_followerOf 72 = .ok (.getfield 27, 3) := by decide +kernel
theorem dX1_followerOf_75 : decode cX1_followerOf 75 = .ok (.iload_n 1, 1) := by decide +kernel
theorem dX1_followerOf_76 : decode cX1_followerOf 76 = .ok (.iaload, 1) := by decide +kernel
theorem dX1_followerOf_77 : decode cX1_followerOf 77 = .ok (.if_icmp .ne 7, 3) := by decide +kernel
theorem dX1_followerOf_80 : decode cX1_followerOf 80 = .ok (.iconst 1, 1) := by decide +kernel
theorem dX1_followerOf_81 : decode cX1_followerOf 81 = .ok (.goto 4, 3) := by decide +kernel
theorem dX1_followerOf_84 : decode cX1_followerOf 84 = .ok (.iconst 0, 1) := by decide +kernel
theorem dX1_followerOf_85 : decode cX1_followerOf 85 = .ok (.istore 4, 2) := by decide +kernel
theorem dX1_followerOf_87 : decode cX1_followerOf 87 = .ok (.iload 4, 2) := by decide +kernel
theorem dX1_followerOf_89 : decode cX1_followerOf 89 = .ok (.ifCond .eq 14, 3) := by decide +kernel
theorem dX1_followerOf_92 : decode cX1_followerOf 92 = .ok (.aload_n 0, 1) := by decide +kernel
theorem dX1_followerOf_93 : decode cX1_followerOf 93 = .ok (.iload_n 1, 1) := by decide +kernel
theorem dX1_followerOf_94 : decode cX1_followerOf 94 = .ok (.iload_n 2, 1) := by decide +kernel
theorem dX1_followerOf_95 : decode cX1_followerOf 95 = .ok (.invokevirtual 118, 3) := by decide +kernel
theorem dX1_followerOf_98 : decode cX1_followerOf 98 = .ok (.ifCond .le 5, 3) := by decide +kernel
theorem dX1_followerOf_101 : decode cX1_followerOf 101 = .ok (.iload_n 2, 1) := by decide +kernel
theorem dX1_followerOf_102 : decode cX1_followerOf 102 = .ok (.ireturn, 1) := by decide +kernel
theorem dX1_followerOf_103 : decode cX1_followerOf 103 = .ok (.iinc 2 1, 3) := by decide +kernel
theorem dX1_followerOf_106 : decode cX1_followerOf 106 = .ok (.goto (-104), 3) := by decide +kernel
theorem dX1_followerOf_109 : decode cX1_followerOf 109 = .ok (.iconst (-1), 1) := by decide +kernel
theorem dX1_followerOf_110 : decode cX1_followerOf 110 = .ok (.ireturn, 1) := by decide +kernel
theorem dX1_passable_0 : decode cX1_passable 0 = .ok (.aload_n 0, 1) := by decide +kernel
theorem dX1_passable_1 : decode cX1_passable 1 = .ok (.getfield 9, 3) := by decide +kernel
theorem dX1_passable_4 : decode cX1_passable 4 = .ok (.iload_n 1, 1) := by decide +kernel
theorem dX1_passable_5 : decode cX1_passable 5 = .ok (.iaload, 1) := by decide +kernel
theorem dX1_passable_6 : decode cX1_passable 6 = .ok (.ifCond .ge 33, 3) := by decide +kernel
theorem dX1_passable_9 : decode cX1_passable 9 = .ok (.aload_n 0, 1) := by decide +kernel
theorem dX1_passable_10 : decode cX1_passable 10 = .ok (.getfield 9, 3) := by decide +kernel
theorem dX1_passable_13 : decode cX1_passable 13 = .ok (.iload_n 2, 1) := by decide +kernel
theorem dX1_passable_14 : decode cX1_passable 14 = .ok (.iaload, 1) := by decide +kernel
theorem dX1_passable_15 : decode cX1_passable 15 = .ok (.ifCond .le 24, 3) := by decide +kernel
theorem dX1_passable_18 : decode cX1_passable 18 = .ok (.iload_n 1, 1) := by decide +kernel
theorem dX1_passable_19 : decode cX1_passable 19 = .ok (.bipush 12, 2) := by decide +kernel
theorem dX1_passable_21 : decode cX1_passable 21 = .ok (.imul, 1) := by decide +kernel
theorem dX1_passable_22 : decode cX1_passable 22 = .ok (.iload_n 2, 1) := by decide +kernel
theorem dX1_passable_23 : decode cX1_passable 23 = .ok (.iadd, 1) := by decide +kernel
theorem dX1_passable_24 : decode cX1_passable 24 = .ok (.istore_n 3, 1) := by decide +kernel
theorem dX1_passable_25 : decode cX1_passable 25 = .ok (.aload_n 0, 1) := by decide +kernel
theorem dX1_passable_26 : decode cX1_passable 26 = .ok (.getfield 18, 3) := by decide +kernel
theorem dX1_passable_29 : decode cX1_passable 29 = .ok (.iload_n 3, 1) := by decide +kernel
theorem dX1_passable_30 : decode cX1_passable 30 = .ok (.iaload, 1) := by decide +kernel
theorem dX1_passable_31 : decode cX1_passable 31 = .ok (.aload_n 0, 1) := by decide +kernel
theorem dX1_passable_32 : decode cX1_passable 32 = .ok (.getfield 24, 3) := by decide +kernel
theorem dX1_passable_35 : decode cX1_passable 35 = .ok (.iload_n 3, 1) := by decide +kernel
theorem dX1_passable_36 : decode cX1_passable 36 = .ok (.iaload, 1) := by decide +kernel
theorem dX1_passable_37 : decode cX1_passable 37 = .ok (.isub, 1) := by decide +kernel
theorem dX1_passable_38 : decode cX1_passable 38 = .ok (.ireturn, 1) := by decide +kernel
theorem dX1_passable_39 : decode cX1_passable 39 = .ok (.aload_n 0, 1) := by decide +kernel
theorem dX1_passable_40 : decode cX1_passable 40 = .ok (.getfield 9, 3) := by decide +kernel
theorem dX1_passable_43 : decode cX1_passable 43 = .ok (.iload_n 1, 1) := by decide +kernel
theorem dX1_passable_44 : decode cX1_passable 44 = .ok (.iaload, 1) := by decide +kernel
theorem dX1_passable_45 : decode cX1_passable 45 = .ok (.ifCond .le 26, 3) := by decide +kernel
theorem dX1_passable_48 : decode cX1_passable 48 = .ok (.aload_n 0, 1) := by decide +kernel
theorem dX1_passable_49 : decode cX1_passable 49 = .ok (.getfield 9, 3) := by decide +kernel
theorem dX1_passable_52 : decode cX1_passable 52 = .ok (.iload_n 2, 1) := by decide +kernel
theorem dX1_passable_53 : decode cX1_passable 53 = .ok (.iaload, 1) := by decide +kernel
theorem dX1_passable_54 : decode cX1_passable 54 = .ok (.ifCond .ge 17, 3) := by decide +kernel
theorem dX1_passable_57 : decode cX1_passable 57 = .ok (.aload_n 0, 1) := by decide +kernel
theorem dX1_passable_58 : decode cX1_passable 58 = .ok (.getfield 24, 3) := by decide +kernel
theorem dX1_passable_61 : decode cX1_passable 61 = .ok (.iload_n 2, 1) := by decide +kernel
theorem dX1_passable_62 : decode cX1_passable 62 = .ok (.bipush 12, 2) := by decide +kernel
theorem dX1_passable_64 : decode cX1_passable 64 = .ok (.imul, 1) := by decide +kernel
theorem dX1_passable_65 : decode cX1_passable 65 = .ok (.iload_n 1, 1) := by decide +kernel
theorem dX1_passable_66 : decode cX1_passable 66 = .ok (.iadd, 1) := by decide +kernel
theorem dX1_passable_67 : decode cX1_passable 67 = .ok (.iaload, 1) := by decide +kernel
theorem dX1_passable_68 : decode cX1_passable 68 = .ok (.goto 4, 3) := by decide +kernel
theorem dX1_passable_71 : decode cX1_passable 71 = .ok (.iconst 0, 1) := by decide +kernel
theorem dX1_passable_72 : decode cX1_passable 72 = .ok (.ireturn, 1) := by decide +kernel
theorem dX1_takeRoute_0 : decode cX1_takeRoute 0 = .ok (.aload_n 0, 1) := by decide +kernel
theorem dX1_takeRoute_1 : decode cX1_takeRoute 1 = .ok (.getfield 33, 3) := by decide +kernel
theorem dX1_takeRoute_4 : decode cX1_takeRoute 4 = .ok (.aload_n 0, 1) := by decide +kernel
theorem dX1_takeRoute_5 : decode cX1_takeRoute 5 = .ok (.getfield 39, 3) := by decide +kernel
theorem dX1_takeRoute_8 : decode cX1_takeRoute 8 = .ok (.iconst 1, 1) := by decide +kernel
theorem dX1_takeRoute_9 : decode cX1_takeRoute 9 = .ok (.isub, 1) := by decide +kernel
theorem dX1_takeRoute_10 : decode cX1_takeRoute 10 = .ok (.iaload, 1) := by decide +kernel
theorem dX1_takeRoute_11 : decode cX1_takeRoute 11 = .ok (.istore_n 1, 1) := by decide +kernel
theorem dX1_takeRoute_12 : decode cX1_takeRoute 12 = .ok (.aload_n 0, 1) := by decide +kernel
theorem dX1_takeRoute_13 : decode cX1_takeRoute 13 = .ok (.getfield 15, 3) := by decide +kernel
theorem dX1_takeRoute_16 : decode cX1_takeRoute 16 = .ok (.aload_n 0, 1) := by decide +kernel
theorem dX1_takeRoute_17 : decode cX1_takeRoute 17 = .ok (.getfield 33, 3) := by decide +kernel
theorem dX1_takeRoute_20 : decode cX1_takeRoute 20 = .ok (.iconst 0, 1) := by decide +kernel
theorem dX1_takeRoute_21 : decode cX1_takeRoute 21 = .ok (.iaload, 1) := by decide +kernel
theorem dX1_takeRoute_22 : decode cX1_takeRoute 22 = .ok (.iaload, 1) := by decide +kernel
theorem dX1_takeRoute_23 : decode cX1_takeRoute 23 = .ok (.aload_n 0, 1) := by decide +kernel
theorem dX1_takeRoute_24 : decode cX1_takeRoute 24 = .ok (.getfield 15, 3) := by decide +kernel
theorem dX1_takeRoute_27 : decode cX1_takeRoute 27 = .ok (.iload_n 1, 1) := by decide +kernel
theorem dX1_takeRoute_28 : decode cX1_takeRoute 28 = .ok (.iaload, 1) := by decide +kernel
theorem dX1_takeRoute_29 : decode cX1_takeRoute 29 = .ok (.invokestatic 121, 3) := by decide +kernel
theorem dX1_takeRoute_32 : decode cX1_takeRoute 32 = .ok (.istore_n 2, 1) := by decide +kernel
theorem dX1_takeRoute_33 : decode cX1_takeRoute 33 = .ok (.iconst 0, 1) := by decide +kernel
theorem dX1_takeRoute_34 : decode cX1_takeRoute 34 = .ok (.istore_n 3, 1) := by decide +kernel
theorem dX1_takeRoute_35 : decode cX1_takeRoute 35 = .ok (.iload_n 3, 1) := by decide +kernel
theorem dX1_takeRoute_36 : decode cX1_takeRoute 36 = .ok (.iconst 1, 1) := by decide +kernel
theorem dX1_takeRoute_37 : decode cX1_takeRoute 37 = .ok (.iadd, 1) := by decide +kernel
theorem dX1_takeRoute_38 : decode cX1_takeRoute 38 = .ok (.aload_n 0, 1) := by decide +kernel
theorem dX1_takeRoute_39 : decode cX1_takeRoute 39 = .ok (.getfield 39, 3) := by decide +kernel
theorem dX1_takeRoute_42 : decode cX1_takeRoute 42 = .ok (.if_icmp .ge 32, 3) := by decide +kernel
theorem dX1_takeRoute_45 : decode cX1_takeRoute 45 = .ok (.iload_n 2, 1) := by decide +kernel
theorem dX1_takeRoute_46 : decode cX1_takeRoute 46 = .ok (.aload_n 0, 1) := by decide +kernel
theorem dX1_takeRoute_47 : decode cX1_takeRoute 47 = .ok (.aload_n 0, 1) := by decide +kernel
theorem dX1_takeRoute_48 : decode cX1_takeRoute 48 = .ok (.getfield 33, 3) := by decide +kernel
theorem dX1_takeRoute_51 : decode cX1_takeRoute 51 = .ok (.iload_n 3, 1) := by decide +kernel
theorem dX1_takeRoute_52 : decode cX1_takeRoute 52 = .ok (.iaload, 1) := by decide +kernel
theorem dX1_takeRoute_53 : decode cX1_takeRoute 53 = .ok (.aload_n 0, 1) := by decide +kernel
theorem dX1_takeRoute_54 : decode cX1_takeRoute 54 = .ok (.getfield 33, 3) := by decide +kernel
theorem dX1_takeRoute_57 : decode cX1_takeRoute 57 = .ok (.iload_n 3, 1) := by decide +kernel
theorem dX1_takeRoute_58 : decode cX1_takeRoute 58 = .ok (.iconst 1, 1) := by decide +kernel
theorem dX1_takeRoute_59 : decode cX1_takeRoute 59 = .ok (.iadd, 1) := by decide +kernel
theorem dX1_takeRoute_60 : decode cX1_takeRoute 60 = .ok (.iaload, 1) := by decide +kernel
theorem dX1_takeRoute_61 : decode cX1_takeRoute 61 = .ok (.invokevirtual 118, 3) := by decide +kernel
theorem dX1_takeRoute_64 : decode cX1_takeRoute 64 = .ok (.invokestatic 121, 3) := by decide +kernel
theorem dX1_takeRoute_67 : decode cX1_takeRoute 67 = .ok (.istore_n 2, 1) := by decide +kernel
theorem dX1_takeRoute_68 : decode cX1_takeRoute 68 = .ok (.iinc 3 1, 3) := by decide +kernel
theorem dX1_takeRoute_71 : decode cX1_takeRoute 71 = .ok (.goto (-36), 3) := by decide +kernel
theorem dX1_takeRoute_74 : decode cX1_takeRoute 74 = .ok (.iconst 0, 1) := by decide +kernel
theorem dX1_takeRoute_75 : decode cX1_takeRoute 75 = .ok (.istore_n 3, 1) := by decide +kernel
theorem dX1_takeRoute_76 : decode cX1_takeRoute 76 = .ok (.iload_n 3, 1) := by decide +kernel
theorem dX1_takeRoute_77 : decode cX1_takeRoute 77 = .ok (.iconst 1, 1) := by decide +kernel
theorem dX1_takeRoute_78 : decode cX1_takeRoute 78 = .ok (.iadd, 1) := by decide +kernel
theorem dX1_takeRoute_79 : decode cX1_takeRoute 79 = .ok (.aload_n 0, 1) := by decide +kernel
theorem dX1_takeRoute_80 : decode cX1_takeRoute 80 = .ok (.getfield 39, 3) := by decide +kernel
theorem dX1_takeRoute_83 : decode cX1_takeRoute 83 = .ok (.if_icmp .ge 80, 3) := by decide +kernel
theorem dX1_takeRoute_86 : decode cX1_takeRoute 86 = .ok (.aload_n 0, 1) := by decide +kernel
theorem dX1_takeRoute_87 : decode cX1_takeRoute 87 = .ok (.getfield 9, 3) := by decide +kernel
theorem dX1_takeRoute_90 : decode cX1_takeRoute 90 = .ok (.aload_n 0, 1) := by decide +kernel
theorem dX1_takeRoute_91 : decode cX1_takeRoute 91 = .ok (.getfield 33, 3) := by decide +kernel
theorem dX1_takeRoute_94 : decode cX1_takeRoute 94 = .ok (.iload_n 3, 1) := by decide +kernel
theorem dX1_takeRoute_95 : decode cX1_takeRoute 95 = .ok (.iaload, 1) := by decide +kernel
theorem dX1_takeRoute_96 : decode cX1_takeRoute 96 = .ok (.iaload, 1) := by decide +kernel
theorem dX1_takeRoute_97 : decode cX1_takeRoute 97 = .ok (.ifCond .ge 33, 3) := by decide +kernel
theorem dX1_takeRoute_100 : decode cX1_takeRoute 100 = .ok (.aload_n 0, 1) := by decide +kernel
theorem dX1_takeRoute_101 : decode cX1_takeRoute 101 = .ok (.getfield 24, 3) := by decide +kernel
theorem dX1_takeRoute_104 : decode cX1_takeRoute 104 = .ok (.aload_n 0, 1) := by decide +kernel
theorem dX1_takeRoute_105 : decode cX1_takeRoute 105 = .ok (.getfield 33, 3) := by decide +kernel
theorem dX1_takeRoute_108 : decode cX1_takeRoute 108 = .ok (.iload_n 3, 1) := by decide +kernel
theorem dX1_takeRoute_109 : decode cX1_takeRoute 109 = .ok (.iaload, 1) := by decide +kernel
theorem dX1_takeRoute_110 : decode cX1_takeRoute 110 = .ok (.bipush 12, 2) := by decide +kernel
theorem dX1_takeRoute_112 : decode cX1_takeRoute 112 = .ok (.imul, 1) := by decide +kernel
theorem dX1_takeRoute_113 : decode cX1_takeRoute 113 = .ok (.aload_n 0, 1) := by decide +kernel
theorem dX1_takeRoute_114 : decode cX1_takeRoute 114 = .ok (.getfield 33, 3) := by decide +kernel
theorem dX1_takeRoute_117 : decode cX1_takeRoute 117 = .ok (.iload_n 3, 1) := by decide +kernel
theorem dX1_takeRoute_118 : decode cX1_takeRoute 118 = .ok (.iconst 1, 1) := by decide +kernel
theorem dX1_takeRoute_119 : decode cX1_takeRoute 119 = .ok (.iadd, 1) := by decide +kernel
theorem dX1_takeRoute_120 : decode cX1_takeRoute 120 = .ok (.iaload, 1) := by decide +kernel
theorem dX1_takeRoute_121 : decode cX1_takeRoute 121 = .ok (.iadd, 1) := by decide +kernel
theorem dX1_takeRoute_122 : decode cX1_takeRoute 122 = .ok (.dup2, 1) := by decide +kernel
theorem dX1_takeRoute_123 : decode cX1_takeRoute 123 = .ok (.iaload, 1) := by decide +kernel
theorem dX1_takeRoute_124 : decode cX1_takeRoute 124 = .ok (.iload_n 2, 1) := by decide +kernel
theorem dX1_takeRoute_125 : decode cX1_takeRoute 125 = .ok (.iadd, 1) := by decide +kernel
theorem dX1_takeRoute_126 : decode cX1_takeRoute 126 = .ok (.iastore, 1) := by decide +kernel
theorem dX1_takeRoute_127 : decode cX1_takeRoute 127 = .ok (.goto 30, 3) := by decide +kernel
theorem dX1_takeRoute_130 : decode cX1_takeRoute 130 = .ok (.aload_n 0, 1) := by decide +kernel
theorem dX1_takeRoute_131 : decode cX1_takeRoute 131 = .ok (.getfield 24, 3) := by decide +kernel
theorem dX1_takeRoute_134 : decode cX1_takeRoute 134 = .ok (.aload_n 0, 1) := by decide +kernel
theorem dX1_takeRoute_135 : decode cX1_takeRoute 135 = .ok (.getfield 33, 3) := by decide +kernel
theorem dX1_takeRoute_138 : decode cX1_takeRoute 138 = .ok (.iload_n 3, 1) := by decide +kernel
theorem dX1_takeRoute_139 : decode cX1_takeRoute 139 = .ok (.iconst 1, 1) := by decide +kernel
theorem dX1_takeRoute_140 : decode cX1_takeRoute 140 = .ok (.iadd, 1) := by decide +kernel
theorem dX1_takeRoute_141 : decode cX1_takeRoute 141 = .ok (.iaload, 1) := by decide +kernel
theorem dX1_takeRoute_142 : decode cX1_takeRoute 142 = .ok (.bipush 12, 2) := by decide +kernel
theorem dX1_takeRoute_144 : decode cX1_takeRoute 144 = .ok (.imul, 1) := by decide +kernel
theorem dX1_takeRoute_145 : decode cX1_takeRoute 145 = .ok (.aload_n 0, 1) := by decide +kernel
theorem dX1_takeRoute_146 : decode cX1_takeRoute 146 = .ok (.getfield 33, 3) := by decide +kernel
theorem dX1_takeRoute_149 : decode cX1_takeRoute 149 = .ok (.iload_n 3, 1) := by decide +kernel
theorem dX1_takeRoute_150 : decode cX1_takeRoute 150 = .ok (.iaload, 1) := by decide +kernel
theorem dX1_takeRoute_151 : decode cX1_takeRoute 151 = .ok (.iadd, 1) := by decide +kernel
theorem dX1_takeRoute_152 : decode cX1_takeRoute 152 = .ok (.dup2, 1) := by decide +kernel
theorem dX1_takeRoute_153 : decode cX1_takeRoute 153 = .ok (.iaload, 1) := by decide +kernel
theorem dX1_takeRoute_154 : decode cX1_takeRoute 154 = .ok (.iload_n 2, 1) := by decide +kernel
theorem dX1_takeRoute_155 : decode cX1_takeRoute 155 = .ok (.isub, 1) := by decide +kernel
theorem dX1_takeRoute_156 : decode cX1_takeRoute 156 = .ok (.iastore, 1) := by decide +kernel
theorem dX1_takeRoute_157 : decode cX1_takeRoute 157 = .ok (.iinc 3 1, 3) := by decide +kernel
theorem dX1_takeRoute_160 : decode cX1_takeRoute 160 = .ok (.goto (-84), 3) := by decide +kernel
theorem dX1_takeRoute_163 : decode cX1_takeRoute 163 = .ok (.aload_n 0, 1) := by decide +kernel
theorem dX1_takeRoute_164 : decode cX1_takeRoute 164 = .ok (.getfield 15, 3) := by decide +kernel
theorem dX1_takeRoute_167 : decode cX1_takeRoute 167 = .ok (.aload_n 0, 1) := by decide +kernel
theorem dX1_takeRoute_168 : decode cX1_takeRoute 168 = .ok (.getfield 33, 3) := by decide +kernel
theorem dX1_takeRoute_171 : decode cX1_takeRoute 171 = .ok (.iconst 0, 1) := by decide +kernel
theorem dX1_takeRoute_172 : decode cX1_takeRoute 172 = .ok (.iaload, 1) := by decide +kernel
theorem dX1_takeRoute_173 : decode cX1_takeRoute 173 = .ok (.dup2, 1) := by decide +kernel
theorem dX1_takeRoute_174 : decode cX1_takeRoute 174 = .ok (.iaload, 1) := by decide +kernel
theorem dX1_takeRoute_175 : decode cX1_takeRoute 175 = .ok (.iload_n 2, 1) := by decide +kernel
theorem dX1_takeRoute_176 : decode cX1_takeRoute 176 = .ok (.isub, 1) := by decide +kernel
theorem dX1_takeRoute_177 : decode cX1_takeRoute 177 = .ok (.iastore, 1) := by decide +kernel
theorem dX1_takeRoute_178 : decode cX1_takeRoute 178 = .ok (.aload_n 0, 1) := by decide +kernel
theorem dX1_takeRoute_179 : decode cX1_takeRoute 179 = .ok (.getfield 15, 3) := by decide +kernel
theorem dX1_takeRoute_182 : decode cX1_takeRoute 182 = .ok (.iload_n 1, 1) := by decide +kernel
theorem dX1_takeRoute_183 : decode cX1_takeRoute 183 = .ok (.dup2, 1) := by decide +kernel
theorem dX1_takeRoute_184 : decode cX1_takeRoute 184 = .ok (.iaload, 1) := by decide +kernel
theorem dX1_takeRoute_185 : decode cX1_takeRoute 185 = .ok (.iload_n 2, 1) := by decide +kernel
theorem dX1_takeRoute_186 : decode cX1_takeRoute 186 = .ok (.isub, 1) := by decide +kernel
theorem dX1_takeRoute_187 : decode cX1_takeRoute 187 = .ok (.iastore, 1) := by decide +kernel
theorem dX1_takeRoute_188 : decode cX1_takeRoute 188 = .ok (.aload_n 0, 1) := by decide +kernel
theorem dX1_takeRoute_189 : decode cX1_takeRoute 189 = .ok (.dup, 1) := by decide +kernel
theorem dX1_takeRoute_190 : decode cX1_takeRoute 190 = .ok (.getfield 52, 3) := by decide +kernel
theorem dX1_takeRoute_193 : decode cX1_takeRoute 193 = .ok (.iload_n 2, 1) := by decide +kernel
theorem dX1_takeRoute_194 : decode cX1_takeRoute 194 = .ok (.iadd, 1) := by decide +kernel
theorem dX1_takeRoute_195 : decode cX1_takeRoute 195 = .ok (.putfield 52, 3) := by decide +kernel
theorem dX1_takeRoute_198 : decode cX1_takeRoute 198 = .ok (.aload_n 0, 1) := by decide +kernel
theorem dX1_takeRoute_199 : decode cX1_takeRoute 199 = .ok (.getfield 49, 3) := by decide +kernel
theorem dX1_takeRoute_202 : decode cX1_takeRoute 202 = .ok (.ifCond .ne 26, 3) := by decide +kernel
theorem dX1_takeRoute_205 : decode cX1_takeRoute 205 = .ok (.aload_n 0, 1) := by decide +kernel
theorem dX1_takeRoute_206 : decode cX1_takeRoute 206 = .ok (.aload_n 0, 1) := by decide +kernel
theorem dX1_takeRoute_207 : decode cX1_takeRoute 207 = .ok (.getfield 39, 3) := by decide +kernel
theorem dX1_takeRoute_210 : decode cX1_takeRoute 210 = .ok (.putfield 43, 3) := by decide +kernel
theorem dX1_takeRoute_213 : decode cX1_takeRoute 213 = .ok (.aload_n 0, 1) := by decide +kernel
theorem dX1_takeRoute_214 : decode cX1_takeRoute 214 = .ok (.getfield 33, 3) := by decide +kernel
theorem dX1_takeRoute_217 : decode cX1_takeRoute 217 = .ok (.iconst 0, 1) := by decide +kernel
theorem dX1_takeRoute_218 : decode cX1_takeRoute 218 = .ok (.aload_n 0, 1) := by decide +kernel
theorem dX1_takeRoute_219 : decode cX1_takeRoute 219 = .ok (.getfield 36, 3) := by decide +kernel
theorem dX1_takeRoute_222 : decode cX1_takeRoute 222 = .ok (.iconst 0, 1) := by decide +kernel
theorem dX1_takeRoute_223 : decode cX1_takeRoute 223 = .ok (.bipush 12, 2) := by decide +kernel
theorem dX1_takeRoute_225 : decode cX1_takeRoute 225 = .ok (.invokestatic 124, 3) := by decide +kernel
theorem dX1_takeRoute_228 : decode cX1_takeRoute 228 = .ok (.aload_n 0, 1) := by decide +kernel
theorem dX1_takeRoute_229 : decode cX1_takeRoute 229 = .ok (.dup, 1) := by decide +kernel
theorem dX1_takeRoute_230 : decode cX1_takeRoute 230 = .ok (.getfield 49, 3) := by decide +kernel
theorem dX1_takeRoute_233 : decode cX1_takeRoute 233 = .ok (.iconst 1, 1) := by decide +kernel
theorem dX1_takeRoute_234 : decode cX1_takeRoute 234 = .ok (.iadd, 1) := by decide +kernel
theorem dX1_takeRoute_235 : decode cX1_takeRoute 235 = .ok (.putfield 49, 3) := by decide +kernel
theorem dX1_takeRoute_238 : decode cX1_takeRoute 238 = .ok (.return_, 1) := by decide +kernel
theorem dX1_totalPrice_0 : decode cX1_totalPrice 0 = .ok (.lconst 0, 1) := by decide +kernel
theorem dX1_totalPrice_1 : decode cX1_totalPrice 1 = .ok (.lstore_n 1, 1) := by decide +kernel
theorem dX1_totalPrice_2 : decode cX1_totalPrice 2 = .ok (.iconst 0, 1) := by decide +kernel
theorem dX1_totalPrice_3 : decode cX1_totalPrice 3 = .ok (.istore_n 3, 1) := by decide +kernel
theorem dX1_totalPrice_4 : decode cX1_totalPrice 4 = .ok (.iload_n 3, 1) := by decide +kernel
theorem dX1_totalPrice_5 : decode cX1_totalPrice 5 = .ok (.aload_n 0, 1) := by decide +kernel
theorem dX1_totalPrice_6 : decode cX1_totalPrice 6 = .ok (.getfield 46, 3) := by decide +kernel
theorem dX1_totalPrice_9 : decode cX1_totalPrice 9 = .ok (.if_icmp .ge 56, 3) := by decide +kernel
theorem dX1_totalPrice_12 : decode cX1_totalPrice 12 = .ok (.iconst 0, 1) := by decide +kernel
theorem dX1_totalPrice_13 : decode cX1_totalPrice 13 = .ok (.istore 4, 2) := by decide +kernel
theorem dX1_totalPrice_15 : decode cX1_totalPrice 15 = .ok (.iload 4, 2) := by decide +kernel
theorem dX1_totalPrice_17 : decode cX1_totalPrice 17 = .ok (.aload_n 0, 1) := by decide +kernel
theorem dX1_totalPrice_18 : decode cX1_totalPrice 18 = .ok (.getfield 46, 3) := by decide +kernel
theorem dX1_totalPrice_21 : decode cX1_totalPrice 21 = .ok (.if_icmp .ge 38, 3) := by decide +kernel
theorem dX1_totalPrice_24 : decode cX1_totalPrice 24 = .ok (.iload_n 3, 1) := by decide +kernel
theorem dX1_totalPrice_25 : decode cX1_totalPrice 25 = .ok (.bipush 12, 2) := by decide +kernel
theorem dX1_totalPrice_27 : decode cX1_totalPrice 27 = .ok (.imul, 1) := by decide +kernel
theorem dX1_totalPrice_28 : decode cX1_totalPrice 28 = .ok (.iload 4, 2) := by decide +kernel
theorem dX1_totalPrice_30 : decode cX1_totalPrice 30 = .ok (.iadd, 1) := by decide +kernel
theorem dX1_totalPrice_31 : decode cX1_totalPrice 31 = .ok (.istore 5, 2) := by decide +kernel
theorem dX1_totalPrice_33 : decode cX1_totalPrice 33 = .ok (.lload_n 1, 1) := by decide +kernel
theorem dX1_totalPrice_34 : decode cX1_totalPrice 34 = .ok (.aload_n 0, 1) := by decide +kernel
theorem dX1_totalPrice_35 : decode cX1_totalPrice 35 = .ok (.getfield 21, 3) := by decide +kernel
theorem dX1_totalPrice_38 : decode cX1_totalPrice 38 = .ok (.iload 5, 2) := by decide +kernel
theorem dX1_totalPrice_40 : decode cX1_totalPrice 40 = .ok (.iaload, 1) := by decide +kernel
theorem dX1_totalPrice_41 : decode cX1_totalPrice 41 = .ok (.i2l, 1) := by decide +kernel
theorem dX1_totalPrice_42 : decode cX1_totalPrice 42 = .ok (.aload_n 0, 1) := by decide +kernel
theorem dX1_totalPrice_43 : decode cX1_totalPrice 43 = .ok (.getfield 24, 3) := by decide +kernel
theorem dX1_totalPrice_46 : decode cX1_totalPrice 46 = .ok (.iload 5, 2) := by decide +kernel
theorem dX1_totalPrice_48 : decode cX1_totalPrice 48 = .ok (.iaload, 1) := by decide +kernel
theorem dX1_totalPrice_49 : decode cX1_totalPrice 49 = .ok (.i2l, 1) := by decide +kernel
theorem dX1_totalPrice_50 : decode cX1_totalPrice 50 = .ok (.lmul, 1) := by decide +kernel
theorem dX1_totalPrice_51 : decode cX1_totalPrice 51 = .ok (.ladd, 1) := by decide +kernel
theorem dX1_totalPrice_52 : decode cX1_totalPrice 52 = .ok (.lstore_n 1, 1) := by decide +kernel
theorem dX1_totalPrice_53 : decode cX1_totalPrice 53 = .ok (.iinc 4 1, 3) := by decide +kernel
theorem dX1_totalPrice_56 : decode cX1_totalPrice 56 = .ok (.goto (-41), 3) := by decide +kernel
theorem dX1_totalPrice_59 : decode cX1_totalPrice 59 = .ok (.iinc 3 1, 3) := by decide +kernel
theorem dX1_totalPrice_62 : decode cX1_totalPrice 62 = .ok (.goto (-58), 3) := by decide +kernel
theorem dX1_totalPrice_65 : decode cX1_totalPrice 65 = .ok (.lload_n 1, 1) := by decide +kernel
theorem dX1_totalPrice_66 : decode cX1_totalPrice 66 = .ok (.lreturn, 1) := by decide +kernel
theorem dX1_usedLinks_0 : decode cX1_usedLinks 0 = .ok (.iconst 0, 1) := by decide +kernel
theorem dX1_usedLinks_1 : decode cX1_usedLinks 1 = .ok (.istore_n 1, 1) := by decide +kernel
theorem dX1_usedLinks_2 : decode cX1_usedLinks 2 = .ok (.iconst 0, 1) := by decide +kernel
theorem dX1_usedLinks_3 : decode cX1_usedLinks 3 = .ok (.istore_n 2, 1) := by decide +kernel
theorem dX1_usedLinks_4 : decode cX1_usedLinks 4 = .ok (.iload_n 2, 1) := by decide +kernel
theorem dX1_usedLinks_5 : decode cX1_usedLinks 5 = .ok (.aload_n 0, 1) := by decide +kernel
theorem dX1_usedLinks_6 : decode cX1_usedLinks 6 = .ok (.getfield 24, 3) := by decide +kernel
theorem dX1_usedLinks_9 : decode cX1_usedLinks 9 = .ok (.arraylength, 1) := by decide +kernel
theorem dX1_usedLinks_10 : decode cX1_usedLinks 10 = .ok (.if_icmp .ge 21, 3) := by decide +kernel
theorem dX1_usedLinks_13 : decode cX1_usedLinks 13 = .ok (.aload_n 0, 1) := by decide +kernel
theorem dX1_usedLinks_14 : decode cX1_usedLinks 14 = .ok (.getfield 24, 3) := by decide +kernel
theorem dX1_usedLinks_17 : decode cX1_usedLinks 17 = .ok (.iload_n 2, 1) := by decide +kernel
theorem dX1_usedLinks_18 : decode cX1_usedLinks 18 = .ok (.iaload, 1) := by decide +kernel
theorem dX1_usedLinks_19 : decode cX1_usedLinks 19 = .ok (.ifCond .le 6, 3) := by decide +kernel
theorem dX1_usedLinks_22 : decode cX1_usedLinks 22 = .ok (.iinc 1 1, 3) := by decide +kernel
theorem dX1_usedLinks_25 : decode cX1_usedLinks 25 = .ok (.iinc 2 1, 3) := by decide +kernel
theorem dX1_usedLinks_28 : decode cX1_usedLinks 28 = .ok (.goto (-24), 3) := by decide +kernel
theorem dX1_usedLinks_31 : decode cX1_usedLinks 31 = .ok (.iload_n 1, 1) := by decide +kernel
theorem dX1_usedLinks_32 : decode cX1_usedLinks 32 = .ok (.ireturn, 1) := by decide +kernel
theorem dX1_reachedBits_0 : decode cX1_reachedBits 0 = .ok (.iconst 0, 1) := by decide +kernel
theorem dX1_reachedBits_1 : decode cX1_reachedBits 1 = .ok (.istore_n 1, 1) := by decide +kernel
theorem dX1_reachedBits_2 : decode cX1_reachedBits 2 = .ok (.iconst 0, 1) := by decide +kernel
theorem dX1_reachedBits_3 : decode cX1_reachedBits 3 = .ok (.istore_n 2, 1) := by decide +kernel
theorem dX1_reachedBits_4 : decode cX1_reachedBits 4 = .ok (.iload_n 2, 1) := by decide +kernel
theorem dX1_reachedBits_5 : decode cX1_reachedBits 5 = .ok (.aload_n 0, 1) := by decide +kernel
theorem dX1_reachedBits_6 : decode cX1_reachedBits 6 = .ok (.getfield 46, 3) := by decide +kernel
theorem dX1_reachedBits_9 : decode cX1_reachedBits 9 = .ok (.if_icmp .ge 33, 3) := by decide +kernel
theorem dX1_reachedBits_12 : decode cX1_reachedBits 12 = .ok (.aload_n 0, 1) := by decide +kernel
theorem dX1_reachedBits_13 : decode cX1_reachedBits 13 = .ok (.getfield 9, 3) := by decide +kernel
theorem dX1_reachedBits_16 : decode cX1_reachedBits 16 = .ok (.iload_n 2, 1) := by decide +kernel
theorem dX1_reachedBits_17 : decode cX1_reachedBits 17 = .ok (.iaload, 1) := by decide +kernel
theorem dX1_reachedBits_18 : decode cX1_reachedBits 18 = .ok (.ifCond .ge 18, 3) := by decide +kernel
theorem dX1_reachedBits_21 : decode cX1_reachedBits 21 = .ok (.aload_n 0, 1) := by decide +kernel
theorem dX1_reachedBits_22 : decode cX1_reachedBits 22 = .ok (.getfield 15, 3) := by decide +kernel
theorem dX1_reachedBits_25 : decode cX1_reachedBits 25 = .ok (.iload_n 2, 1) := by decide +kernel
theorem dX1_reachedBits_26 : decode cX1_reachedBits 26 = .ok (.iaload, 1) := by decide +kernel
theorem dX1_reachedBits_27 : decode cX1_reachedBits 27 = .ok (.ifCond .le 9, 3) := by decide +kernel
theorem dX1_reachedBits_30 : decode cX1_reachedBits 30 = .ok (.iload_n 1, 1) := by decide +kernel
theorem dX1_reachedBits_31 : decode cX1_reachedBits 31 = .ok (.iconst 1, 1) := by decide +kernel
theorem dX1_reachedBits_32 : decode cX1_reachedBits 32 = .ok (.iload_n 2, 1) := by decide +kernel
theorem dX1_reachedBits_33 : decode cX1_reachedBits 33 = .ok (.ishl, 1) := by decide +kernel
theorem dX1_reachedBits_34 : decode cX1_reachedBits 34 = .ok (.ior, 1) := by decide +kernel
theorem dX1_reachedBits_35 : decode cX1_reachedBits 35 = .ok (.istore_n 1, 1) := by decide +kernel
theorem dX1_reachedBits_36 : decode cX1_reachedBits 36 = .ok (.iinc 2 1, 3) := by decide +kernel
theorem dX1_reachedBits_39 : decode cX1_reachedBits 39 = .ok (.goto (-35), 3) := by decide +kernel
theorem dX1_reachedBits_42 : decode cX1_reachedBits 42 = .ok (.iconst 0, 1) := by decide +kernel
theorem dX1_reachedBits_43 : decode cX1_reachedBits 43 = .ok (.istore_n 2, 1) := by decide +kernel
theorem dX1_reachedBits_44 : decode cX1_reachedBits 44 = .ok (.iload_n 2, 1) := by decide +kernel
theorem dX1_reachedBits_45 : decode cX1_reachedBits 45 = .ok (.aload_n 0, 1) := by decide +kernel
theorem dX1_reachedBits_46 : decode cX1_reachedBits 46 = .ok (.getfield 46, 3) := by decide +kernel
theorem dX1_reachedBits_49 : decode cX1_reachedBits 49 = .ok (.if_icmp .ge 42, 3) := by decide +kernel
theorem dX1_reachedBits_52 : decode cX1_reachedBits 52 = .ok (.iconst 0, 1) := by decide +kernel
theorem dX1_reachedBits_53 : decode cX1_reachedBits 53 = .ok (.istore_n 3, 1) := by decide +kernel
theorem dX1_reachedBits_54 : decode cX1_reachedBits 54 = .ok (.iload_n 3, 1) := by decide +kernel
theorem dX1_reachedBits_55 : decode cX1_reachedBits 55 = .ok (.aload_n 0, 1) := by decide +kernel
theorem dX1_reachedBits_56 : decode cX1_reachedBits 56 = .ok (.getfield 46, 3) := by decide +kernel
theorem dX1_reachedBits_59 : decode cX1_reachedBits 59 = .ok (.if_icmp .ge 26, 3) := by decide +kernel
theorem dX1_reachedBits_62 : decode cX1_reachedBits 62 = .ok (.iload_n 1, 1) := by decide +kernel
theorem dX1_reachedBits_63 : decode cX1_reachedBits 63 = .ok (.iload_n 3, 1) := by decide +kernel
theorem dX1_reachedBits_64 : decode cX1_reachedBits 64 = .ok (.ishr, 1) := by decide +kernel
theorem dX1_reachedBits_65 : decode cX1_reachedBits 65 = .ok (.iconst 1, 1) := by decide +kernel
theorem dX1_reachedBits_66 : decode cX1_reachedBits 66 = .ok (.iand, 1) := by decide +kernel
theorem dX1_reachedBits_67 : decode cX1_reachedBits 67 = .ok (.iconst 1, 1) := by decide +kernel
theorem dX1_reachedBits_68 : decode cX1_reachedBits 68 = .ok (.if_icmp .ne 11, 3) := by decide +kernel
theorem dX1_reachedBits_71 : decode cX1_reachedBits 71 = .ok (.iload_n 1, 1) := by decide +kernel
theorem dX1_reachedBits_72 : decode cX1_reachedBits 72 = .ok (.aload_n 0, 1) := by decide +kernel
theorem dX1_reachedBits_73 : decode cX1_reachedBits 73 = .ok (.iload_n 3, 1) := by decide +kernel
theorem dX1_reachedBits_74 : decode cX1_reachedBits 74 = .ok (.invokevirtual 130, 3) := by decide +kernel
theorem dX1_reachedBits_77 : decode cX1_reachedBits 77 = .ok (.ior, 1) := by decide +kernel
theorem dX1_reachedBits_78 : decode cX1_reachedBits 78 = .ok (.istore_n 1, 1) := by decide +kernel
theorem dX1_reachedBits_79 : decode cX1_reachedBits 79 = .ok (.iinc 3 1, 3) := by decide +kernel
theorem dX1_reachedBits_82 : decode cX1_reachedBits 82 = .ok (.goto (-28), 3) := by decide +kernel
theorem dX1_reachedBits_85 : decode cX1_reachedBits 85 = .ok (.iinc 2 1, 3) := by decide +kernel
theorem dX1_reachedBits_88 : decode cX1_reachedBits 88 = .ok (.goto (-44), 3) := by decide +kernel
theorem dX1_reachedBits_91 : decode cX1_reachedBits 91 = .ok (.iload_n 1, 1) := by decide +kernel
theorem dX1_reachedBits_92 : decode cX1_reachedBits 92 = .ok (.ireturn, 1) := by decide +kernel
theorem dX1_neighboursOf_0 : decode cX1_neighboursOf 0 = .ok (.iconst 0, 1) := by decide +kernel
theorem dX1_neighboursOf_1 : decode cX1_neighboursOf 1 = .ok (.istore_n 2, 1) := by decide +kernel
theorem dX1_neighboursOf_2 : decode cX1_neighboursOf 2 = .ok (.iconst 0, 1) := by decide +kernel
theorem dX1_neighboursOf_3 : decode cX1_neighboursOf 3 = .ok (.istore_n 3, 1) := by decide +kernel
theorem dX1_neighboursOf_4 : decode cX1_neighboursOf 4 = .ok (.iload_n 3, 1) := by decide +kernel
theorem dX1_neighboursOf_5 : decode cX1_neighboursOf 5 = .ok (.aload_n 0, 1) := by decide +kernel
theorem dX1_neighboursOf_6 : decode cX1_neighboursOf 6 = .ok (.getfield 46, 3) := by decide +kernel
theorem dX1_neighboursOf_9 : decode cX1_neighboursOf 9 = .ok (.if_icmp .ge 24, 3) := by decide +kernel
theorem dX1_neighboursOf_12 : decode cX1_neighboursOf 12 = .ok (.aload_n 0, 1) := by decide +kernel
theorem dX1_neighboursOf_13 : decode cX1_neighboursOf 13 = .ok (.iload_n 1, 1) := by decide +kernel
theorem dX1_neighboursOf_14 : decode cX1_neighboursOf 14 = .ok (.iload_n 3, 1) := by decide +kernel
theorem dX1_neighboursOf_15 : decode cX1_neighboursOf 15 = .ok (.invokevirtual 118, 3) := by decide +kernel
theorem dX1_neighboursOf_18 : decode cX1_neighboursOf 18 = .ok (.ifCond .le 9, 3) := by decide +kernel
theorem dX1_neighboursOf_21 : decode cX1_neighboursOf 21 = .ok (.iload_n 2, 1) := by decide +kernel
theorem dX1_neighboursOf_22 : decode cX1_neighboursOf 22 = .ok (.iconst 1, 1) := by decide +kernel
theorem dX1_neighboursOf_23 : decode cX1_neighboursOf 23 = .ok (.iload_n 3, 1) := by decide +kernel
theorem dX1_neighboursOf_24 : decode cX1_neighboursOf 24 = .ok (.ishl, 1) := by decide +kernel
theorem dX1_neighboursOf_25 : decode cX1_neighboursOf 25 = .ok (.ior, 1) := by decide +kernel
theorem dX1_neighboursOf_26 : decode cX1_neighboursOf 26 = .ok (.istore_n 2, 1) := by decide +kernel
theorem dX1_neighboursOf_27 : decode cX1_neighboursOf 27 = .ok (.iinc 3 1, 3) := by decide +kernel
theorem dX1_neighboursOf_30 : decode cX1_neighboursOf 30 = .ok (.goto (-26), 3) := by decide +kernel
theorem dX1_neighboursOf_33 : decode cX1_neighboursOf 33 = .ok (.iload_n 2, 1) := by decide +kernel
theorem dX1_neighboursOf_34 : decode cX1_neighboursOf 34 = .ok (.ireturn, 1) := by decide +kernel
theorem dX2_init_0 : decode cX2_init 0 = .ok (.aload_n 0, 1) := by decide +kernel
theorem dX2_init_1 : decode cX2_init 1 = .ok (.invokespecial 3, 3) := by decide +kernel
theorem dX2_init_4 : decode cX2_init 4 = .ok (.aload_n 0, 1) := by decide +kernel
theorem dX2_init_5 : decode cX2_init 5 = .ok (.bipush 100, 2) := by decide +kernel
theorem dX2_init_7 : decode cX2_init 7 = .ok (.newarray .int, 2) := by decide +kernel
theorem dX2_init_9 : decode cX2_init 9 = .ok (.putfield 11, 3) := by decide +kernel
theorem dX2_init_12 : decode cX2_init 12 = .ok (.aload_n 0, 1) := by decide +kernel
theorem dX2_init_13 : decode cX2_init 13 = .ok (.iconst 0, 1) := by decide +kernel
theorem dX2_init_14 : decode cX2_init 14 = .ok (.putfield 15, 3) := by decide +kernel
theorem dX2_init_17 : decode cX2_init 17 = .ok (.return_, 1) := by decide +kernel
theorem dX2_clear_0 : decode cX2_clear 0 = .ok (.aload_n 0, 1) := by decide +kernel
theorem dX2_clear_1 : decode cX2_clear 1 = .ok (.iconst 0, 1) := by decide +kernel
theorem dX2_clear_2 : decode cX2_clear 2 = .ok (.putfield 15, 3) := by decide +kernel
theorem dX2_clear_5 : decode cX2_clear 5 = .ok (.return_, 1) := by decide +kernel
theorem dX2_push_0 : decode cX2_push 0 = .ok (.aload_n 0, 1) := by decide +kernel
theorem dX2_push_1 : decode cX2_push 1 = .ok (.getfield 15, 3) := by decide +kernel
theorem dX2_push_4 : decode cX2_push 4 = .ok (.bipush 20, 2) := by decide +kernel
theorem dX2_push_6 : decode cX2_push 6 = .ok (.if_icmp .lt 24, 3) := by decide +kernel
theorem dX2_push_9 : decode cX2_push 9 = .ok (.aload_n 0, 1) := by decide +kernel
theorem dX2_push_10 : decode cX2_push 10 = .ok (.getfield 11, 3) := by decide +kernel
theorem dX2_push_13 : decode cX2_push 13 = .ok (.iconst 5, 1) := by decide +kernel
theorem dX2_push_14 : decode cX2_push 14 = .ok (.aload_n 0, 1) := by decide +kernel
theorem dX2_push_15 : decode cX2_push 15 = .ok (.getfield 11, 3) := by decide +kernel
theorem dX2_push_18 : decode cX2_push 18 = .ok (.iconst 0, 1) := by decide +kernel
theorem dX2_push_19 : decode cX2_push 19 = .ok (.bipush 95, 2) := by decide +kernel
theorem dX2_push_21 : decode cX2_push 21 = .ok (.invokestatic 19, 3) := by decide +kernel
theorem dX2_push_24 : decode cX2_push 24 = .ok (.aload_n 0, 1) := by decide +kernel
theorem dX2_push_25 : decode cX2_push 25 = .ok (.bipush 19, 2) := by decide +kernel
theorem dX2_push_27 : decode cX2_push 27 = .ok (.putfield 15, 3) := by decide +kernel
theorem dX2_push_30 : decode cX2_push 30 = .ok (.aload_n 0, 1) := by decide +kernel
theorem dX2_push_31 : decode cX2_push 31 = .ok (.getfield 15, 3) := by decide +kernel
theorem dX2_push_34 : decode cX2_push 34 = .ok (.iconst 5, 1) := by decide +kernel
theorem dX2_push_35 : decode cX2_push 35 = .ok (.imul, 1) := by decide +kernel
theorem dX2_push_36 : decode cX2_push 36 = .ok (.istore 6, 2) := by decide +kernel
theorem dX2_push_38 : decode cX2_push 38 = .ok (.aload_n 0, 1) := by decide +kernel
theorem dX2_push_39 : decode cX2_push 39 = .ok (.getfield 11, 3) := by decide +kernel
theorem dX2_push_42 : decode cX2_push 42 = .ok (.iload 6, 2) := by decide +kernel
theorem dX2_push_44 : decode cX2_push 44 = .ok (.iload_n 1, 1) := by decide +kernel
theorem dX2_push_45 : decode cX2_push 45 = .ok (.iastore, 1) := by decide +kernel
theorem dX2_push_46 : decode cX2_push 46 = .ok (.aload_n 0, 1) := by decide +kernel
theorem dX2_push_47 : decode cX2_push 47 = .ok (.getfield 11, 3) := by decide +kernel
theorem dX2_push_50 : decode cX2_push 50 = .ok (.iload 6, 2) := by decide +kernel
theorem dX2_push_52 : decode cX2_push 52 = .ok (.iconst 1, 1) := by decide +kernel
theorem dX2_push_53 : decode cX2_push 53 = .ok (.iadd, 1) := by decide +kernel
theorem dX2_push_54 : decode cX2_push 54 = .ok (.iload_n 2, 1) := by decide +kernel
theorem dX2_push_55 : decode cX2_push 55 = .ok (.iastore, 1) := by decide +kernel
theorem dX2_push_56 : decode cX2_push 56 = .ok (.aload_n 0, 1) := by decide +kernel
theorem dX2_push_57 : decode cX2_push 57 = .ok (.getfield 11, 3) := by decide +kernel
theorem dX2_push_60 : decode cX2_push 60 = .ok (.iload 6, 2) := by decide +kernel
theorem dX2_push_62 : decode cX2_push 62 = .ok (.iconst 2, 1) := by decide +kernel
theorem dX2_push_63 : decode cX2_push 63 = .ok (.iadd, 1) := by decide +kernel
theorem dX2_push_64 : decode cX2_push 64 = .ok (.iload_n 3, 1) := by decide +kernel
theorem dX2_push_65 : decode cX2_push 65 = .ok (.iastore, 1) := by decide +kernel
theorem dX2_push_66 : decode cX2_push 66 = .ok (.aload_n 0, 1) := by decide +kernel
theorem dX2_push_67 : decode cX2_push 67 = .ok (.getfield 11, 3) := by decide +kernel
theorem dX2_push_70 : decode cX2_push 70 = .ok (.iload 6, 2) := by decide +kernel
theorem dX2_push_72 : decode cX2_push 72 = .ok (.iconst 3, 1) := by decide +kernel
theorem dX2_push_73 : decode cX2_push 73 = .ok (.iadd, 1) := by decide +kernel
theorem dX2_push_74 : decode cX2_push 74 = .ok (.iload 4, 2) := by decide +kernel
theorem dX2_push_76 : decode cX2_push 76 = .ok (.iastore, 1) := by decide +kernel
theorem dX2_push_77 : decode cX2_push 77 = .ok (.aload_n 0, 1) := by decide +kernel
theorem dX2_push_78 : decode cX2_push 78 = .ok (.getfield 11, 3) := by decide +kernel
theorem dX2_push_81 : decode cX2_push 81 = .ok (.iload 6, 2) := by decide +kernel
theorem dX2_push_83 : decode cX2_push 83 = .ok (.iconst 4, 1) := by decide +kernel
theorem dX2_push_84 : decode cX2_push 84 = .ok (.iadd, 1) := by decide +kernel
theorem dX2_push_85 : decode cX2_push 85 = .ok (.iload 5, 2) := by decide +kernel
theorem dX2_push_87 : decode cX2_push 87 = .ok (.iastore, 1) := by decide +kernel
theorem dX2_push_88 : decode cX2_push 88 = .ok (.aload_n 0, 1) := by decide +kernel
theorem dX2_push_89 : decode cX2_push 89 = .ok (.dup, 1) := by decide +kernel
theorem dX2_push_90 : decode cX2_push 90 = .ok (.getfield 15, 3) := by decide +kernel
theorem dX2_push_93 : decode cX2_push 93 = .ok (.iconst 1, 1) := by decide +kernel
theorem dX2_push_94 : decode cX2_push 94 = .ok (.iadd, 1) := by decide +kernel
theorem dX2_push_95 : decode cX2_push 95 = .ok (.putfield 15, 3) := by decide +kernel
theorem dX2_push_98 : decode cX2_push 98 = .ok (.return_, 1) := by decide +kernel
theorem dX2_pop_0 : decode cX2_pop 0 = .ok (.aload_n 0, 1) := by decide +kernel
theorem dX2_pop_1 : decode cX2_pop 1 = .ok (.iconst 0, 1) := by decide +kernel
theorem dX2_pop_2 : decode cX2_pop 2 = .ok (.aload_n 0, 1) := by decide +kernel
theorem dX2_pop_3 : decode cX2_pop 3 = .ok (.getfield 15, 3) := by decide +kernel
theorem dX2_pop_6 : decode cX2_pop 6 = .ok (.iconst 1, 1) := by decide +kernel
theorem dX2_pop_7 : decode cX2_pop 7 = .ok (.isub, 1) := by decide +kernel
theorem dX2_pop_8 : decode cX2_pop 8 = .ok (.invokestatic 25, 3) := by decide +kernel
theorem dX2_pop_11 : decode cX2_pop 11 = .ok (.putfield 15, 3) := by decide +kernel
theorem dX2_pop_14 : decode cX2_pop 14 = .ok (.aload_n 0, 1) := by decide +kernel
theorem dX2_pop_15 : decode cX2_pop 15 = .ok (.getfield 15, 3) := by decide +kernel
theorem dX2_pop_18 : decode cX2_pop 18 = .ok (.iconst 5, 1) := by decide +kernel
theorem dX2_pop_19 : decode cX2_pop 19 = .ok (.imul, 1) := by decide +kernel
theorem dX2_pop_20 : decode cX2_pop 20 = .ok (.ireturn, 1) := by decide +kernel
theorem dX3_init_0 : decode cX3_init 0 = .ok (.aload_n 0, 1) := by decide +kernel
theorem dX3_init_1 : decode cX3_init 1 = .ok (.invokespecial 3, 3) := by decide +kernel
theorem dX3_init_4 : decode cX3_init 4 = .ok (.aload_n 0, 1) := by decide +kernel
theorem dX3_init_5 : decode cX3_init 5 = .ok (.new 9, 3) := by decide +kernel
theorem dX3_init_8 : decode cX3_init 8 = .ok (.dup, 1) := by decide +kernel
theorem dX3_init_9 : decode cX3_init 9 = .ok (.invokespecial 11, 3) := by decide +kernel
theorem dX3_init_12 : decode cX3_init 12 = .ok (.putfield 12, 3) := by decide +kernel
theorem dX3_init_15 : decode cX3_init 15 = .ok (.aload_n 0, 1) := by decide +kernel
theorem dX3_init_16 : decode cX3_init 16 = .ok (.new 18, 3) := by decide +kernel
theorem dX3_init_19 : decode cX3_init 19 = .ok (.dup, 1) := by decide +kernel
theorem dX3_init_20 : decode cX3_init 20 = .ok (.invokespecial 20, 3) := by decide +kernel
theorem dX3_init_23 : decode cX3_init 23 = .ok (.putfield 21, 3) := by decide +kernel
theorem dX3_init_26 : decode cX3_init 26 = .ok (.aload_n 0, 1) := by decide +kernel
theorem dX3_init_27 : decode cX3_init 27 = .ok (.bipush 12, 2) := by decide +kernel
theorem dX3_init_29 : decode cX3_init 29 = .ok (.newarray .int, 2) := by decide +kernel
theorem dX3_init_31 : decode cX3_init 31 = .ok (.putfield 25, 3) := by decide +kernel
theorem dX3_init_34 : decode cX3_init 34 = .ok (.aload_n 0, 1) := by decide +kernel
theorem dX3_init_35 : decode cX3_init 35 = .ok (.iconst 0, 1) := by decide +kernel
theorem dX3_init_36 : decode cX3_init 36 = .ok (.putfield 29, 3) := by decide +kernel
theorem dX3_init_39 : decode cX3_init 39 = .ok (.return_, 1) := by decide +kernel
theorem dX4_init_0 : decode cX4_init 0 = .ok (.aload_n 0, 1) := by decide +kernel
theorem dX4_init_1 : decode cX4_init 1 = .ok (.invokespecial 3, 3) := by decide +kernel
theorem dX4_init_4 : decode cX4_init 4 = .ok (.aload_n 0, 1) := by decide +kernel
theorem dX4_init_5 : decode cX4_init 5 = .ok (.bipush 25, 2) := by decide +kernel
theorem dX4_init_7 : decode cX4_init 7 = .ok (.newarray .int, 2) := by decide +kernel
theorem dX4_init_9 : decode cX4_init 9 = .ok (.putfield 9, 3) := by decide +kernel
theorem dX4_init_12 : decode cX4_init 12 = .ok (.aload_n 0, 1) := by decide +kernel
theorem dX4_init_13 : decode cX4_init 13 = .ok (.sipush 200, 3) := by decide +kernel
theorem dX4_init_16 : decode cX4_init 16 = .ok (.newarray .int, 2) := by decide +kernel
theorem dX4_init_18 : decode cX4_init 18 = .ok (.putfield 15, 3) := by decide +kernel
theorem dX4_init_21 : decode cX4_init 21 = .ok (.aload_n 0, 1) := by decide +kernel
theorem dX4_init_22 : decode cX4_init 22 = .ok (.iconst 0, 1) := by decide +kernel
theorem dX4_init_23 : decode cX4_init 23 = .ok (.putfield 18, 3) := by decide +kernel
theorem dX4_init_26 : decode cX4_init 26 = .ok (.return_, 1) := by decide +kernel
theorem dX4_fill_0 : decode cX4_fill 0 = .ok (.aload_n 0, 1) := by decide +kernel
theorem dX4_fill_1 : decode cX4_fill 1 = .ok (.getfield 9, 3) := by decide +kernel
theorem dX4_fill_4 : decode cX4_fill 4 = .ok (.iconst 0, 1) := by decide +kernel
theorem dX4_fill_5 : decode cX4_fill 5 = .ok (.iconst 0, 1) := by decide +kernel
theorem dX4_fill_6 : decode cX4_fill 6 = .ok (.iastore, 1) := by decide +kernel
theorem dX4_fill_7 : decode cX4_fill 7 = .ok (.aload_n 0, 1) := by decide +kernel
theorem dX4_fill_8 : decode cX4_fill 8 = .ok (.iconst 1, 1) := by decide +kernel
theorem dX4_fill_9 : decode cX4_fill 9 = .ok (.putfield 18, 3) := by decide +kernel
theorem dX4_fill_12 : decode cX4_fill 12 = .ok (.iconst 0, 1) := by decide +kernel
theorem dX4_fill_13 : decode cX4_fill 13 = .ok (.istore 4, 2) := by decide +kernel
theorem dX4_fill_15 : decode cX4_fill 15 = .ok (.iload 4, 2) := by decide +kernel
theorem dX4_fill_17 : decode cX4_fill 17 = .ok (.aload_n 1, 1) := by decide +kernel
theorem dX4_fill_18 : decode cX4_fill 18 = .ok (.getfield 22, 3) := by decide +kernel
theorem dX4_fill_21 : decode cX4_fill 21 = .ok (.getfield 28, 3) := by decide +kernel
theorem dX4_fill_24 : decode cX4_fill 24 = .ok (.if_icmp .ge 23, 3) := by decide +kernel
theorem dX4_fill_27 : decode cX4_fill 27 = .ok (.aload_n 0, 1) := by decide +kernel
theorem dX4_fill_28 : decode cX4_fill 28 = .ok (.aload_n 1, 1) := by decide +kernel
theorem dX4_fill_29 : decode cX4_fill 29 = .ok (.getfield 22, 3) := by decide +kernel
theorem dX4_fill_32 : decode cX4_fill 32 = .ok (.getfield 33, 3) := by decide +kernel
theorem dX4_fill_35 : decode cX4_fill 35 = .ok (.iload 4, 2) := by decide +kernel
theorem dX4_fill_37 : decode cX4_fill 37 = .ok (.iaload, 1) := by decide +kernel
theorem dX4_fill_38 : decode cX4_fill 38 = .ok (.invokevirtual 36, 3) := by decide +kernel
theorem dX4_fill_41 : decode cX4_fill 41 = .ok (.iinc 4 1, 3) := by decide +kernel
theorem dX4_fill_44 : decode cX4_fill 44 = .ok (.goto (-29), 3) := by decide +kernel
theorem dX4_fill_47 : decode cX4_fill 47 = .ok (.iconst 0, 1) := by decide +kernel
theorem dX4_fill_48 : decode cX4_fill 48 = .ok (.istore 4, 2) := by decide +kernel
theorem dX4_fill_50 : decode cX4_fill 50 = .ok (.iload 4, 2) := by decide +kernel
theorem dX4_fill_52 : decode cX4_fill 52 = .ok (.aload_n 0, 1) := by decide +kernel
theorem dX4_fill_53 : decode cX4_fill 53 = .ok (.getfield 18, 3) := by decide +kernel
theorem dX4_fill_56 : decode cX4_fill 56 = .ok (.if_icmp .ge 63, 3) := by decide +kernel
theorem dX4_fill_59 : decode cX4_fill 59 = .ok (.aload_n 3, 1) := by decide +kernel
theorem dX4_fill_60 : decode cX4_fill 60 = .ok (.aload_n 1, 1) := by decide +kernel
theorem dX4_fill_61 : decode cX4_fill 61 = .ok (.aload_n 0, 1) := by decide +kernel
theorem dX4_fill_62 : decode cX4_fill 62 = .ok (.getfield 9, 3) := by decide +kernel
theorem dX4_fill_65 : decode cX4_fill 65 = .ok (.iload 4, 2) := by decide +kernel
theorem dX4_fill_67 : decode cX4_fill 67 = .ok (.iaload, 1) := by decide +kernel
theorem dX4_fill_68 : decode cX4_fill 68 = .ok (.invokevirtual 40, 3) := by decide +kernel
theorem dX4_fill_71 : decode cX4_fill 71 = .ok (.aload_n 3, 1) := by decide +kernel
theorem dX4_fill_72 : decode cX4_fill 72 = .ok (.iload_n 2, 1) := by decide +kernel
theorem dX4_fill_73 : decode cX4_fill 73 = .ok (.invokevirtual 46, 3) := by decide +kernel
theorem dX4_fill_76 : decode cX4_fill 76 = .ok (.iconst 0, 1) := by decide +kernel
theorem dX4_fill_77 : decode cX4_fill 77 = .ok (.istore 5, 2) := by decide +kernel
theorem dX4_fill_79 : decode cX4_fill 79 = .ok (.iload 5, 2) := by decide +kernel
theorem dX4_fill_81 : decode cX4_fill 81 = .ok (.aload_n 1, 1) := by decide +kernel
theorem dX4_fill_82 : decode cX4_fill 82 = .ok (.getfield 49, 3) := by decide +kernel
theorem dX4_fill_85 : decode cX4_fill 85 = .ok (.if_icmp .ge 28, 3) := by decide +kernel
theorem dX4_fill_88 : decode cX4_fill 88 = .ok (.aload_n 0, 1) := by decide +kernel
theorem dX4_fill_89 : decode cX4_fill 89 = .ok (.getfield 15, 3) := by decide +kernel
theorem dX4_fill_92 : decode cX4_fill 92 = .ok (.iload 4, 2) := by decide +kernel
theorem dX4_fill_94 : decode cX4_fill 94 = .ok (.bipush 8, 2) := by decide +kernel
theorem dX4_fill_96 : decode cX4_fill 96 = .ok (.imul, 1) := by decide +kernel
theorem dX4_fill_97 : decode cX4_fill 97 = .ok (.iload 5, 2) := by decide +kernel
theorem dX4_fill_99 : decode cX4_fill 99 = .ok (.iadd, 1) := by decide +kernel
theorem dX4_fill_100 : decode cX4_fill 100 = .ok (.aload_n 3, 1) := by decide +kernel
theorem dX4_fill_101 : decode cX4_fill 101 = .ok (.iload 5, 2) := by decide +kernel
theorem dX4_fill_103 : decode cX4_fill 103 = .ok (.invokevirtual 52, 3) := by decide +kernel
theorem dX4_fill_106 : decode cX4_fill 106 = .ok (.iastore, 1) := by decide +kernel
theorem dX4_fill_107 : decode cX4_fill 107 = .ok (.iinc 5 1, 3) := by decide +kernel
theorem dX4_fill_110 : decode cX4_fill 110 = .ok (.goto (-31), 3) := by decide +kernel
theorem dX4_fill_113 : decode cX4_fill 113 = .ok (.iinc 4 1, 3) := by decide +kernel
theorem dX4_fill_116 : decode cX4_fill 116 = .ok (.goto (-66), 3) := by decide +kernel
theorem dX4_fill_119 : decode cX4_fill 119 = .ok (.return_, 1) := by decide +kernel
theorem dX4_addStart_0 : decode cX4_addStart 0 = .ok (.aload_n 0, 1) := by decide +kernel
theorem dX4_addStart_1 : decode cX4_addStart 1 = .ok (.getfield 18, 3) := by decide +kernel
theorem dX4_addStart_4 : decode cX4_addStart 4 = .ok (.istore_n 2, 1) := by decide +kernel
theorem dX4_addStart_5 : decode cX4_addStart 5 = .ok (.aload_n 0, 1) := by decide +kernel
theorem dX4_addStart_6 : decode cX4_addStart 6 = .ok (.getfield 18, 3) := by decide +kernel
theorem dX4_addStart_9 : decode cX4_addStart 9 = .ok (.istore_n 3, 1) := by decide +kernel
theorem dX4_addStart_10 : decode cX4_addStart 10 = .ok (.iload_n 3, 1) := by decide +kernel
theorem dX4_addStart_11 : decode cX4_addStart 11 = .ok (.ifCond .le 35, 3) := by decide +kernel
theorem dX4_addStart_14 : decode cX4_addStart 14 = .ok (.aload_n 0, 1) := by decide +kernel
theorem dX4_addStart_15 : decode cX4_addStart 15 = .ok (.getfield 9, 3) := by decide +kernel
theorem dX4_addStart_18 : decode cX4_addStart 18 = .ok (.iload_n 2, 1) := by decide +kernel
theorem dX4_addStart_19 : decode cX4_addStart 19 = .ok (.iconst 1, 1) := by decide +kernel
theorem dX4_addStart_20 : decode cX4_addStart 20 = .ok (.isub, 1) := by decide +kernel
theorem dX4_addStart_21 : decode cX4_addStart 21 = .ok (.iaload, 1) := by decide +kernel
theorem dX4_addStart_22 : decode cX4_addStart 22 = .ok (.iload_n 1, 1) := by decide +kernel
theorem dX4_addStart_23 : decode cX4_addStart 23 = .ok (.if_icmp .lt 23, 3) := by decide +kernel
theorem dX4_addStart_26 : decode cX4_addStart 26 = .ok (.iinc 2 (-1), 3) := by decide +kernel
theorem dX4_addStart_29 : decode cX4_addStart 29 = .ok (.aload_n 0, 1) := by decide +kernel
theorem dX4_addStart_30 : decode cX4_addStart 30 = .ok (.getfield 9, 3) := by decide +kernel
theorem dX4_addStart_33 : decode cX4_addStart 33 = .ok (.iload_n 2, 1) := by decide +kernel
theorem dX4_addStart_34 : decode cX4_addStart 34 = .ok (.iaload, 1) := by decide +kernel
theorem dX4_addStart_35 : decode cX4_addStart 35 = .ok (.iload_n 1, 1) := by decide +kernel
theorem dX4_addStart_36 : decode cX4_addStart 36 = .ok (.if_icmp .ne 4, 3) := by decide +kernel
theorem dX4_addStart_39 : decode cX4_addStart 39 = .ok (.return_, 1) := by decide +kernel
theorem dX4_addStart_40 : decode cX4_addStart 40 = .ok (.iinc 3 (-1), 3) := by decide +kernel
theorem dX4_addStart_43 : decode cX4_addStart 43 = .ok (.goto (-33), 3) := by decide +kernel
theorem dX4_addStart_46 : decode cX4_addStart 46 = .ok (.aload_n 0, 1) := by decide +kernel
theorem dX4_addStart_47 : decode cX4_addStart 47 = .ok (.getfield 18, 3) := by decide +kernel
theorem dX4_addStart_50 : decode cX4_addStart 50 = .ok (.istore_n 3, 1) := by decide +kernel
theorem dX4_addStart_51 : decode cX4_addStart 51 = .ok (.iload_n 3, 1) := by decide +kernel
theorem dX4_addStart_52 : decode cX4_addStart 52 = .ok (.iload_n 2, 1) := by decide +kernel
theorem dX4_addStart_53 : decode cX4_addStart 53 = .ok (.if_icmp .le 32, 3) := by decide +kernel
theorem dX4_addStart_56 : decode cX4_addStart 56 = .ok (.iload_n 3, 1) := by decide +kernel
theorem dX4_addStart_57 : decode cX4_addStart 57 = .ok (.aload_n 0, 1) := by decide +kernel
theorem dX4_addStart_58 : decode cX4_addStart 58 = .ok (.getfield 9, 3) := by decide +kernel
theorem dX4_addStart_61 : decode cX4_addStart 61 = .ok (.arraylength, 1) := by decide +kernel
theorem dX4_addStart_62 : decode cX4_addStart 62 = .ok (.if_icmp .ge 23, 3) := by decide +kernel
theorem dX4_addStart_65 : decode cX4_addStart 65 = .ok (.aload_n 0, 1) := by decide +kernel
theorem dX4_addStart_66 : decode cX4_addStart 66 = .ok (.getfield 9, 3) := by decide +kernel
theorem dX4_addStart_69 : decode cX4_addStart 69 = .ok (.iload_n 3, 1) := by decide +kernel
theorem dX4_addStart_70 : decode cX4_addStart 70 = .ok (.aload_n 0, 1) := by decide +kernel
theorem dX4_addStart_71 : decode cX4_addStart 71 = .ok (.getfield 9, 3) := by decide +kernel
theorem dX4_addStart_74 : decode cX4_addStart 74 = .ok (.iload_n 3, 1) := by decide +kernel
theorem dX4_addStart_75 : decode cX4_addStart 75 = .ok (.iconst 1, 1) := by decide +kernel
theorem dX4_addStart_76 : decode cX4_addStart 76 = .ok (.isub, 1) := by decide +kernel
theorem dX4_addStart_77 : decode cX4_addStart 77 = .ok (.iaload, 1) := by decide +kernel
theorem dX4_addStart_78 : decode cX4_addStart 78 = .ok (.iastore, 1) := by decide +kernel
theorem dX4_addStart_79 : decode cX4_addStart 79 = .ok (.iinc 3 (-1), 3) := by decide +kernel
theorem dX4_addStart_82 : decode cX4_addStart 82 = .ok (.goto (-31), 3) := by decide +kernel
theorem dX4_addStart_85 : decode cX4_addStart 85 = .ok (.aload_n 0, 1) := by decide +kernel
theorem dX4_addStart_86 : decode cX4_addStart 86 = .ok (.getfield 9, 3) := by decide +kernel
theorem dX4_addStart_89 : decode cX4_addStart 89 = .ok (.iload_n 2, 1) := by decide +kernel
theorem dX4_addStart_90 : decode cX4_addStart 90 = .ok (.iload_n 1, 1) := by decide +kernel
theorem dX4_addStart_91 : decode cX4_addStart 91 = .ok (.iastore, 1) := by decide +kernel
theorem dX4_addStart_92 : decode cX4_addStart 92 = .ok (.aload_n 0, 1) := by decide +kernel
theorem dX4_addStart_93 : decode cX4_addStart 93 = .ok (.dup, 1) := by decide +kernel
theorem dX4_addStart_94 : decode cX4_addStart 94 = .ok (.getfield 18, 3) := by decide +kernel
theorem dX4_addStart_97 : decode cX4_addStart 97 = .ok (.iconst 1, 1) := by decide +kernel
theorem dX4_addStart_98 : decode cX4_addStart 98 = .ok (.iadd, 1) := by decide +kernel
theorem dX4_addStart_99 : decode cX4_addStart 99 = .ok (.putfield 18, 3) := by decide +kernel
theorem dX4_addStart_102 : decode cX4_addStart 102 = .ok (.return_, 1) := by decide +kernel
theorem dX4_endOf_0 : decode cX4_endOf 0 = .ok (.iload_n 1, 1) := by decide +kernel
theorem dX4_endOf_1 : decode cX4_endOf 1 = .ok (.iconst 1, 1) := by decide +kernel
theorem dX4_endOf_2 : decode cX4_endOf 2 = .ok (.iadd, 1) := by decide +kernel
theorem dX4_endOf_3 : decode cX4_endOf 3 = .ok (.aload_n 0, 1) := by decide +kernel
theorem dX4_endOf_4 : decode cX4_endOf 4 = .ok (.getfield 18, 3) := by decide +kernel
theorem dX4_endOf_7 : decode cX4_endOf 7 = .ok (.if_icmp .ge 16, 3) := by decide +kernel
theorem dX4_endOf_10 : decode cX4_endOf 10 = .ok (.aload_n 0, 1) := by decide +kernel
theorem dX4_endOf_11 : decode cX4_endOf 11 = .ok (.getfield 9, 3) := by decide +kernel
theorem dX4_endOf_14 : decode cX4_endOf 14 = .ok (.iload_n 1, 1) := by decide +kernel
theorem dX4_endOf_15 : decode cX4_endOf 15 = .ok (.iconst 1, 1) := by decide +kernel
theorem dX4_endOf_16 : decode cX4_endOf 16 = .ok (.iadd, 1) := by decide +kernel
theorem dX4_endOf_17 : decode cX4_endOf 17 = .ok (.iaload, 1) := by decide +kernel
theorem dX4_endOf_18 : decode cX4_endOf 18 = .ok (.iconst 1, 1) := by decide +kernel
theorem dX4_endOf_19 : decode cX4_endOf 19 = .ok (.isub, 1) := by decide +kernel
theorem dX4_endOf_20 : decode cX4_endOf 20 = .ok (.goto 6, 3) := by decide +kernel
theorem dX4_endOf_23 : decode cX4_endOf 23 = .ok (.sipush 999, 3) := by decide +kernel
theorem dX4_endOf_26 : decode cX4_endOf 26 = .ok (.ireturn, 1) := by decide +kernel
theorem dX4_isTogether_0 : decode cX4_isTogether 0 = .ok (.aload_n 0, 1) := by decide +kernel
theorem dX4_isTogether_1 : decode cX4_isTogether 1 = .ok (.getfield 15, 3) := by decide +kernel
theorem dX4_isTogether_4 : decode cX4_isTogether 4 = .ok (.iload_n 1, 1) := by decide +kernel
theorem dX4_isTogether_5 : decode cX4_isTogether 5 = .ok (.bipush 8, 2) := by decide +kernel
theorem dX4_isTogether_7 : decode cX4_isTogether 7 = .ok (.imul, 1) := by decide +kernel
theorem dX4_isTogether_8 : decode cX4_isTogether 8 = .ok (.iload_n 2, 1) := by decide +kernel
theorem dX4_isTogether_9 : decode cX4_isTogether 9 = .ok (.iadd, 1) := by decide +kernel
theorem dX4_isTogether_10 : decode cX4_isTogether 10 = .ok (.iaload, 1) := by decide +kernel
theorem dX4_isTogether_11 : decode cX4_isTogether 11 = .ok (.iload_n 3, 1) := by decide +kernel
theorem dX4_isTogether_12 : decode cX4_isTogether 12 = .ok (.ishr, 1) := by decide +kernel
theorem dX4_isTogether_13 : decode cX4_isTogether 13 = .ok (.iconst 1, 1) := by decide +kernel
theorem dX4_isTogether_14 : decode cX4_isTogether 14 = .ok (.iand, 1) := by decide +kernel
theorem dX4_isTogether_15 : decode cX4_isTogether 15 = .ok (.iconst 1, 1) := by decide +kernel
theorem dX4_isTogether_16 : decode cX4_isTogether 16 = .ok (.if_icmp .ne 7, 3) := by decide +kernel
theorem dX4_isTogether_19 : decode cX4_isTogether 19 = .ok (.iconst 1, 1) := by decide +kernel
theorem dX4_isTogether_20 : decode cX4_isTogether 20 = .ok (.goto 4, 3) := by decide +kernel
theorem dX4_isTogether_23 : decode cX4_isTogether 23 = .ok (.iconst 0, 1) := by decide +kernel
theorem dX4_isTogether_24 : decode cX4_isTogether 24 = .ok (.ireturn, 1) := by decide +kernel
theorem dX4_daysTogether_0 : decode cX4_daysTogether 0 = .ok (.iconst 0, 1) := by decide +kernel
theorem dX4_daysTogether_1 : decode cX4_daysTogether 1 = .ok (.istore 5, 2) := by decide +kernel
theorem dX4_daysTogether_3 : decode cX4_daysTogether 3 = .ok (.iconst 0, 1) := by decide +kernel
theorem dX4_daysTogether_4 : decode cX4_daysTogether 4 = .ok (.istore 6, 2) := by decide +kernel
theorem dX4_daysTogether_6 : decode cX4_daysTogether 6 = .ok (.iload 6, 2) := by decide +kernel
theorem dX4_daysTogether_8 : decode cX4_daysTogether 8 = .ok (.aload_n 0, 1) := by decide +kernel
theorem dX4_daysTogether_9 : decode cX4_daysTogether 9 = .ok (.getfield 18, 3) := by decide +kernel
theorem dX4_daysTogether_12 : decode cX4_daysTogether 12 = .ok (.if_icmp .ge 65, 3) := by decide +kernel
theorem dX4_daysTogether_15 : decode cX4_daysTogether 15 = .ok (.iload_n 3, 1) := by decide +kernel
theorem dX4_daysTogether_16 : decode cX4_daysTogether 16 = .ok (.aload_n 0, 1) := by decide +kernel
theorem dX4_daysTogether_17 : decode cX4_daysTogether 17 = .ok (.getfield 9, 3) := by decide +kernel
theorem dX4_daysTogether_20 : decode cX4_daysTogether 20 = .ok (.iload 6, 2) := by decide +kernel
theorem dX4_daysTogether_22 : decode cX4_daysTogether 22 = .ok (.iaload, 1) := by decide +kernel
theorem dX4_daysTogether_23 : decode cX4_daysTogether 23 = .ok (.invokestatic 56, 3) := by decide +kernel
theorem dX4_daysTogether_26 : decode cX4_daysTogether 26 = .ok (.istore 7, 2) := by decide +kernel
theorem dX4_daysTogether_28 : decode cX4_daysTogether 28 = .ok (.iload 4, 2) := by decide +kernel
theorem dX4_daysTogether_30 : decode cX4_daysTogether 30 = .ok (.aload_n 0, 1) := by decide +kernel
theorem dX4_daysTogether_31 : decode cX4_daysTogether 31 = .ok (.iload 6, 2) := by decide +kernel
theorem dX4_daysTogether_33 : decode cX4_daysTogether 33 = .ok (.invokevirtual 62, 3) := by decide +kernel
theorem dX4_daysTogether_36 : decode cX4_daysTogether 36 = .ok (.invokestatic 65, 3) := by decide +kernel
theorem dX4_daysTogether_39 : decode cX4_daysTogether 39 = .ok (.istore 8, 2) := by decide +kernel
theorem dX4_daysTogether_41 : decode cX4_daysTogether 41 = .ok (.iload 7, 2) := by decide +kernel
theorem dX4_daysTogether_43 : decode cX4_daysTogether 43 = .ok (.iload 8, 2) := by decide +kernel
theorem dX4_daysTogether_45 : decode cX4_daysTogether 45 = .ok (.if_icmp .gt 26, 3) := by decide +kernel
theorem dX4_daysTogether_48 : decode cX4_daysTogether 48 = .ok (.aload_n 0, 1) := by decide +kernel
theorem dX4_daysTogether_49 : decode cX4_daysTogether 49 = .ok (.iload 6, 2) := by decide +kernel
theorem dX4_daysTogether_51 : decode cX4_daysTogether 51 = .ok (.iload_n 1, 1) := by decide +kernel
theorem dX4_daysTogether_52 : decode cX4_daysTogether 52 = .ok (.iload_n 2, 1) := by decide +kernel
theorem dX4_daysTogether_53 : decode cX4_daysTogether 53 = .ok (.invokevirtual 68, 3) := by decide +kernel
theorem dX4_daysTogether_56 : decode cX4_daysTogether 56 = .ok (.ifCond .eq 15, 3) := by decide +kernel
theorem dX4_daysTogether_59 : decode cX4_daysTogether 59 = .ok (.iload 5, 2) := by decide +kernel
theorem dX4_daysTogether_61 : decode cX4_daysTogether 61 = .ok (.iload 8, 2) := by decide +kernel
theorem dX4_daysTogether_63 : decode cX4_daysTogether 63 = .ok (.iload 7, 2) := by decide +kernel
theorem dX4_daysTogether_65 : decode cX4_daysTogether 65 = .ok (.isub, 1) := by decide +kernel
theorem dX4_daysTogether_66 : decode cX4_daysTogether 66 = .ok (.iconst 1, 1) := by decide +kernel
theorem dX4_daysTogether_67 : decode cX4_daysTogether 67 = .ok (.iadd, 1) := by decide +kernel
theorem dX4_daysTogether_68 : decode cX4_daysTogether 68 = .ok (.iadd, 1) := by decide +kernel
theorem dX4_daysTogether_69 : decode cX4_daysTogether 69 = .ok (.istore 5, 2) := by decide +kernel
theorem dX4_daysTogether_71 : decode cX4_daysTogether 71 = .ok (.iinc 6 1, 3) := by decide +kernel
theorem dX4_daysTogether_74 : decode cX4_daysTogether 74 = .ok (.goto (-68), 3) := by decide +kernel
theorem dX4_daysTogether_77 : decode cX4_daysTogether 77 = .ok (.iload 5, 2) := by decide +kernel
theorem dX4_daysTogether_79 : decode cX4_daysTogether 79 = .ok (.ireturn, 1) := by decide +kernel
theorem dX4_firstDay_0 : decode cX4_firstDay 0 = .ok (.iconst 0, 1) := by decide +kernel
theorem dX4_firstDay_1 : decode cX4_firstDay 1 = .ok (.istore_n 3, 1) := by decide +kernel
theorem dX4_firstDay_2 : decode cX4_firstDay 2 = .ok (.iload_n 3, 1) := by decide +kernel
theorem dX4_firstDay_3 : decode cX4_firstDay 3 = .ok (.aload_n 0, 1) := by decide +kernel
theorem dX4_firstDay_4 : decode cX4_firstDay 4 = .ok (.getfield 18, 3) := by decide +kernel
theorem dX4_firstDay_7 : decode cX4_firstDay 7 = .ok (.if_icmp .ge 26, 3) := by decide +kernel
theorem dX4_firstDay_10 : decode cX4_firstDay 10 = .ok (.aload_n 0, 1) := by decide +kernel
theorem dX4_firstDay_11 : decode cX4_firstDay 11 = .ok (.iload_n 3, 1) := by decide +kernel
theorem dX4_firstDay_12 : decode cX4_firstDay 12 = .ok (.iload_n 1, 1) := by decide +kernel
theorem dX4_firstDay_13 : decode cX4_firstDay 13 = .ok (.iload_n 2, 1) := by decide +kernel
theorem dX4_firstDay_14 : decode cX4_firstDay 14 = .ok (.invokevirtual 68, 3) := by decide +kernel
theorem dX4_firstDay_17 : decode cX4_firstDay 17 = .ok (.ifCond .eq 10, 3) := by decide +kernel
theorem dX4_firstDay_20 : decode cX4_firstDay 20 = .ok (.aload_n 0, 1) := by decide +kernel
theorem dX4_firstDay_21 : decode cX4_firstDay 21 = .ok (.getfield 9, 3) := by decide +kernel
theorem dX4_firstDay_24 : decode cX4_firstDay 24 = .ok (.iload_n 3, 1) := by decide +kernel
theorem dX4_firstDay_25 : decode cX4_firstDay 25 = .ok (.iaload, 1) := by decide +kernel
theorem dX4_firstDay_26 : decode cX4_firstDay 26 = .ok (.ireturn, 1) := by decide +kernel
theorem dX4_firstDay_27 : decode cX4_firstDay 27 = .ok (.iinc 3 1, 3) := by decide +kernel
theorem dX4_firstDay_30 : decode cX4_firstDay 30 = .ok (.goto (-28), 3) := by decide +kernel
theorem dX4_firstDay_33 : decode cX4_firstDay 33 = .ok (.bipush (-2), 2) := by decide +kernel
theorem dX4_firstDay_35 : decode cX4_firstDay 35 = .ok (.ireturn, 1) := by decide +kernel
theorem dX4_lastDay_0 : decode cX4_lastDay 0 = .ok (.aload_n 0, 1) := by decide +kernel
theorem dX4_lastDay_1 : decode cX4_lastDay 1 = .ok (.getfield 18, 3) := by decide +kernel
theorem dX4_lastDay_4 : decode cX4_lastDay 4 = .ok (.iconst 1, 1) := by decide +kernel
theorem dX4_lastDay_5 : decode cX4_lastDay 5 = .ok (.isub, 1) := by decide +kernel
theorem dX4_lastDay_6 : decode cX4_lastDay 6 = .ok (.istore_n 3, 1) := by decide +kernel
theorem dX4_lastDay_7 : decode cX4_lastDay 7 = .ok (.iload_n 3, 1) := by decide +kernel
theorem dX4_lastDay_8 : decode cX4_lastDay 8 = .ok (.ifCond .lt 25, 3) := by decide +kernel
theorem dX4_lastDay_11 : decode cX4_lastDay 11 = .ok (.aload_n 0, 1) := by decide +kernel
theorem dX4_lastDay_12 : decode cX4_lastDay 12 = .ok (.iload_n 3, 1) := by decide +kernel
theorem dX4_lastDay_13 : decode cX4_lastDay 13 = .ok (.iload_n 1, 1) := by decide +kernel
theorem dX4_lastDay_14 : decode cX4_lastDay 14 = .ok (.iload_n 2, 1) := by decide +kernel
theorem dX4_lastDay_15 : decode cX4_lastDay 15 = .ok (.invokevirtual 68, 3) := by decide +kernel
theorem dX4_lastDay_18 : decode cX4_lastDay 18 = .ok (.ifCond .eq 9, 3) := by decide +kernel
theorem dX4_lastDay_21 : decode cX4_lastDay 21 = .ok (.aload_n 0, 1) := by decide +kernel
theorem dX4_lastDay_22 : decode cX4_lastDay 22 = .ok (.iload_n 3, 1) := by decide +kernel
theorem dX4_lastDay_23 : decode cX4_lastDay 23 = .ok (.invokevirtual 62, 3) := by decide +kernel
theorem dX4_lastDay_26 : decode cX4_lastDay 26 = .ok (.ireturn, 1) := by decide +kernel
theorem dX4_lastDay_27 : decode cX4_lastDay 27 = .ok (.iinc 3 (-1), 3) := by decide +kernel
theorem dX4_lastDay_30 : decode cX4_lastDay 30 = .ok (.goto (-23), 3) := by decide +kernel
theorem dX4_lastDay_33 : decode cX4_lastDay 33 = .ok (.bipush (-2), 2) := by decide +kernel
theorem dX4_lastDay_35 : decode cX4_lastDay 35 = .ok (.ireturn, 1) := by decide +kernel
theorem dX5_init_0 : decode cX5_init 0 = .ok (.aload_n 0, 1) := by decide +kernel
theorem dX5_init_1 : decode cX5_init 1 = .ok (.invokespecial 3, 3) := by decide +kernel
theorem dX5_init_4 : decode cX5_init 4 = .ok (.aload_n 0, 1) := by decide +kernel
theorem dX5_init_5 : decode cX5_init 5 = .ok (.bipush 30, 2) := by decide +kernel
theorem dX5_init_7 : decode cX5_init 7 = .ok (.newarray .int, 2) := by decide +kernel
theorem dX5_init_9 : decode cX5_init 9 = .ok (.putfield 9, 3) := by decide +kernel
theorem dX5_init_12 : decode cX5_init 12 = .ok (.aload_n 0, 1) := by decide +kernel
theorem dX5_init_13 : decode cX5_init 13 = .ok (.bipush 30, 2) := by decide +kernel
theorem dX5_init_15 : decode cX5_init 15 = .ok (.newarray .int, 2) := by decide +kernel
theorem dX5_init_17 : decode cX5_init 17 = .ok (.putfield 15, 3) := by decide +kernel
theorem dX5_init_20 : decode cX5_init 20 = .ok (.aload_n 0, 1) := by decide +kernel
theorem dX5_init_21 : decode cX5_init 21 = .ok (.bipush 30, 2) := by decide +kernel
theorem dX5_init_23 : decode cX5_init 23 = .ok (.newarray .int, 2) := by decide +kernel
theorem dX5_init_25 : decode cX5_init 25 = .ok (.putfield 18, 3) := by decide +kernel
theorem dX5_init_28 : decode cX5_init 28 = .ok (.aload_n 0, 1) := by decide +kernel
theorem dX5_init_29 : decode cX5_init 29 = .ok (.iconst 0, 1) := by decide +kernel
theorem dX5_init_30 : decode cX5_init 30 = .ok (.putfield 21, 3) := by decide +kernel
theorem dX5_init_33 : decode cX5_init 33 = .ok (.return_, 1) := by decide +kernel
theorem dX5_clear_0 : decode cX5_clear 0 = .ok (.aload_n 0, 1) := by decide +kernel
theorem dX5_clear_1 : decode cX5_clear 1 = .ok (.iconst 0, 1) := by decide +kernel
theorem dX5_clear_2 : decode cX5_clear 2 = .ok (.putfield 21, 3) := by decide +kernel
theorem dX5_clear_5 : decode cX5_clear 5 = .ok (.return_, 1) := by decide +kernel
theorem dX5_has_0 : decode cX5_has 0 = .ok (.iload_n 1, 1) := by decide +kernel
theorem dX5_has_1 : decode cX5_has 1 = .ok (.ifCond .lt 15, 3) := by decide +kernel
theorem dX5_has_4 : decode cX5_has 4 = .ok (.iload_n 1, 1) := by decide +kernel
theorem dX5_has_5 : decode cX5_has 5 = .ok (.aload_n 0, 1) := by decide +kernel
theorem dX5_has_6 : decode cX5_has 6 = .ok (.getfield 21, 3) := by decide +kernel
theorem dX5_has_9 : decode cX5_has 9 = .ok (.if_icmp .ge 7, 3) := by decide +kernel
theorem dX5_has_12 : decode cX5_has 12 = .ok (.iconst 1, 1) := by decide +kernel
theorem dX5_has_13 : decode cX5_has 13 = .ok (.goto 4, 3) := by decide +kernel
theorem dX5_has_16 : decode cX5_has 16 = .ok (.iconst 0, 1) := by decide +kernel
theorem dX5_has_17 : decode cX5_has 17 = .ok (.ireturn, 1) := by decide +kernel
theorem dX5_copy_0 : decode cX5_copy 0 = .ok (.aload_n 1, 1) := by decide +kernel
theorem dX5_copy_1 : decode cX5_copy 1 = .ok (.getfield 9, 3) := by decide +kernel
theorem dX5_copy_4 : decode cX5_copy 4 = .ok (.iconst 0, 1) := by decide +kernel
theorem dX5_copy_5 : decode cX5_copy 5 = .ok (.aload_n 0, 1) := by decide +kernel
theorem dX5_copy_6 : decode cX5_copy 6 = .ok (.getfield 9, 3) := by decide +kernel
theorem dX5_copy_9 : decode cX5_copy 9 = .ok (.iconst 0, 1) := by decide +kernel
theorem dX5_copy_10 : decode cX5_copy 10 = .ok (.bipush 30, 2) := by decide +kernel
theorem dX5_copy_12 : decode cX5_copy 12 = .ok (.invokestatic 25, 3) := by decide +kernel
theorem dX5_copy_15 : decode cX5_copy 15 = .ok (.aload_n 1, 1) := by decide +kernel
theorem dX5_copy_16 : decode cX5_copy 16 = .ok (.getfield 15, 3) := by decide +kernel
theorem dX5_copy_19 : decode cX5_copy 19 = .ok (.iconst 0, 1) := by decide +kernel
theorem dX5_copy_20 : decode cX5_copy 20 = .ok (.aload_n 0, 1) := by decide +kernel
theorem dX5_copy_21 : decode cX5_copy 21 = .ok (.getfield 15, 3) := by decide +kernel
theorem dX5_copy_24 : decode cX5_copy 24 = .ok (.iconst 0, 1) := by decide +kernel
theorem dX5_copy_25 : decode cX5_copy 25 = .ok (.bipush 30, 2) := by decide +kernel
theorem dX5_copy_27 : decode cX5_copy 27 = .ok (.invokestatic 25, 3) := by decide +kernel
theorem dX5_copy_30 : decode cX5_copy 30 = .ok (.aload_n 1, 1) := by decide +kernel
theorem dX5_copy_31 : decode cX5_copy 31 = .ok (.getfield 18, 3) := by decide +kernel
theorem dX5_copy_34 : decode cX5_copy 34 = .ok (.iconst 0, 1) := by decide +kernel
theorem dX5_copy_35 : decode cX5_copy 35 = .ok (.aload_n 0, 1) := by decide +kernel
theorem dX5_copy_36 : decode cX5_copy 36 = .ok (.getfield 18, 3) := by decide +kernel
theorem dX5_copy_39 : decode cX5_copy 39 = .ok (.iconst 0, 1) := by decide +kernel
theorem dX5_copy_40 : decode cX5_copy 40 = .ok (.bipush 30, 2) := by decide +kernel
theorem dX5_copy_42 : decode cX5_copy 42 = .ok (.invokestatic 25, 3) := by decide +kernel
theorem dX5_copy_45 : decode cX5_copy 45 = .ok (.aload_n 0, 1) := by decide +kernel
theorem dX5_copy_46 : decode cX5_copy 46 = .ok (.aload_n 1, 1) := by decide +kernel
theorem dX5_copy_47 : decode cX5_copy 47 = .ok (.getfield 21, 3) := by decide +kernel
theorem dX5_copy_50 : decode cX5_copy 50 = .ok (.putfield 21, 3) := by decide +kernel
theorem dX5_copy_53 : decode cX5_copy 53 = .ok (.return_, 1) := by decide +kernel
theorem dX5_insert_0 : decode cX5_insert 0 = .ok (.iload_n 1, 1) := by decide +kernel
theorem dX5_insert_1 : decode cX5_insert 1 = .ok (.ifCond .lt 20, 3) := by decide +kernel
theorem dX5_insert_4 : decode cX5_insert 4 = .ok (.iload_n 1, 1) := by decide +kernel
theorem dX5_insert_5 : decode cX5_insert 5 = .ok (.aload_n 0, 1) := by decide +kernel
theorem dX5_insert_6 : decode cX5_insert 6 = .ok (.getfield 21, 3) := by decide +kernel
theorem dX5_insert_9 : decode cX5_insert 9 = .ok (.if_icmp .gt 12, 3) := by decide +kernel
theorem dX5_insert_12 : decode cX5_insert 12 = .ok (.aload_n 0, 1) := by decide +kernel
theorem dX5_insert_13 : decode cX5_insert 13 = .ok (.getfield 21, 3) := by decide +kernel
theorem dX5_insert_16 : decode cX5_insert 16 = .ok (.bipush 30, 2) := by decide +kernel
theorem dX5_insert_18 : decode cX5_insert 18 = .ok (.if_icmp .lt 4, 3) := by decide +kernel
theorem dX5_insert_21 : decode cX5_insert 21 = .ok (.return_, 1) := by decide +kernel
theorem dX5_insert_22 : decode cX5_insert 22 = .ok (.aload_n 0, 1) := by decide +kernel
theorem dX5_insert_23 : decode cX5_insert 23 = .ok (.getfield 21, 3) := by decide +kernel
theorem dX5_insert_26 : decode cX5_insert 26 = .ok (.istore 5, 2) := by decide +kernel
theorem dX5_insert_28 : decode cX5_insert 28 = .ok (.iload 5, 2) := by decide +kernel
theorem dX5_insert_30 : decode cX5_insert 30 = .ok (.iload_n 1, 1) := by decide +kernel
theorem dX5_insert_31 : decode cX5_insert 31 = .ok (.if_icmp .le 57, 3) := by decide +kernel
theorem dX5_insert_34 : decode cX5_insert 34 = .ok (.aload_n 0, 1) := by decide +kernel
theorem dX5_insert_35 : decode cX5_insert 35 = .ok (.getfield 9, 3) := by decide +kernel
theorem dX5_insert_38 : decode cX5_insert 38 = .ok (.iload 5, 2) := by decide +kernel
theorem dX5_insert_40 : decode cX5_insert 40 = .ok (.aload_n 0, 1) := by decide +kernel
theorem dX5_insert_41 : decode cX5_insert 41 = .ok (.getfield 9, 3) := by decide +kernel
theorem dX5_insert_44 : decode cX5_insert 44 = .ok (.iload 5, 2) := by decide +kernel
theorem dX5_insert_46 : decode cX5_insert 46 = .ok (.iconst 1, 1) := by decide +kernel
theorem dX5_insert_47 : decode cX5_insert 47 = .ok (.isub, 1) := by decide +kernel
theorem dX5_insert_48 : decode cX5_insert 48 = .ok (.iaload, 1) := by decide +kernel
theorem dX5_insert_49 : decode cX5_insert 49 = .ok (.iastore, 1) := by decide +kernel
theorem dX5_insert_50 : decode cX5_insert 50 = .ok (.aload_n 0, 1) := by decide +kernel
theorem dX5_insert_51 : decode cX5_insert 51 = .ok (.getfield 15, 3) := by decide +kernel
theorem dX5_insert_54 : decode cX5_insert 54 = .ok (.iload 5, 2) := by decide +kernel
theorem dX5_insert_56 : decode cX5_insert 56 = .ok (.aload_n 0, 1) := by decide +kernel
theorem dX5_insert_57 : decode cX5_insert 57 = .ok (.getfield 15, 3) := by decide +kernel
theorem dX5_insert_60 : decode cX5_insert 60 = .ok (.iload 5, 2) := by decide +kernel
theorem dX5_insert_62 : decode cX5_insert 62 = .ok (.iconst 1, 1) := by decide +kernel
theorem dX5_insert_63 : decode cX5_insert 63 = .ok (.isub, 1) := by decide +kernel
theorem dX5_insert_64 : decode cX5_insert 64 = .ok (.iaload, 1) := by decide +kernel
theorem dX5_insert_65 : decode cX5_insert 65 = .ok (.iastore, 1) := by decide +kernel
theorem dX5_insert_66 : decode cX5_insert 66 = .ok (.aload_n 0, 1) := by decide +kernel
theorem dX5_insert_67 : decode cX5_insert 67 = .ok (.getfield 18, 3) := by decide +kernel
theorem dX5_insert_70 : decode cX5_insert 70 = .ok (.iload 5, 2) := by decide +kernel
theorem dX5_insert_72 : decode cX5_insert 72 = .ok (.aload_n 0, 1) := by decide +kernel
theorem dX5_insert_73 : decode cX5_insert 73 = .ok (.getfield 18, 3) := by decide +kernel
theorem dX5_insert_76 : decode cX5_insert 76 = .ok (.iload 5, 2) := by decide +kernel
theorem dX5_insert_78 : decode cX5_insert 78 = .ok (.iconst 1, 1) := by decide +kernel
theorem dX5_insert_79 : decode cX5_insert 79 = .ok (.isub, 1) := by decide +kernel
theorem dX5_insert_80 : decode cX5_insert 80 = .ok (.iaload, 1) := by decide +kernel
theorem dX5_insert_81 : decode cX5_insert 81 = .ok (.iastore, 1) := by decide +kernel
theorem dX5_insert_82 : decode cX5_insert 82 = .ok (.iinc 5 (-1), 3) := by decide +kernel
theorem dX5_insert_85 : decode cX5_insert 85 = .ok (.goto (-57), 3) := by decide +kernel
theorem dX5_insert_88 : decode cX5_insert 88 = .ok (.aload_n 0, 1) := by decide +kernel
theorem dX5_insert_89 : decode cX5_insert 89 = .ok (.getfield 9, 3) := by decide +kernel
theorem dX5_insert_92 : decode cX5_insert 92 = .ok (.iload_n 1, 1) := by decide +kernel
theorem dX5_insert_93 : decode cX5_insert 93 = .ok (.iload_n 2, 1) := by decide +kernel
theorem dX5_insert_94 : decode cX5_insert 94 = .ok (.iastore, 1) := by decide +kernel
theorem dX5_insert_95 : decode cX5_insert 95 = .ok (.aload_n 0, 1) := by decide +kernel
theorem dX5_insert_96 : decode cX5_insert 96 = .ok (.getfield 15, 3) := by decide +kernel
theorem dX5_insert_99 : decode cX5_insert 99 = .ok (.iload_n 1, 1) := by decide +kernel
theorem dX5_insert_100 : decode cX5_insert 100 = .ok (.iload_n 3, 1) := by decide +kernel
theorem dX5_insert_101 : decode cX5_insert 101 = .ok (.iastore, 1) := by decide +kernel
theorem dX5_insert_102 : decode cX5_insert 102 = .ok (.aload_n 0, 1) := by decide +kernel
theorem dX5_insert_103 : decode cX5_insert 103 = .ok (.getfield 18, 3) := by decide +kernel
theorem dX5_insert_106 : decode cX5_insert 106 = .ok (.iload_n 1, 1) := by decide +kernel
theorem dX5_insert_107 : decode cX5_insert 107 = .ok (.iload 4, 2) := by decide +kernel
theorem dX5_insert_109 : decode cX5_insert 109 = .ok (.iastore, 1) := by decide +kernel
theorem dX5_insert_110 : decode cX5_insert 110 = .ok (.aload_n 0, 1) := by decide +kernel
theorem dX5_insert_111 : decode cX5_insert 111 = .ok (.dup, 1) := by decide +kernel
theorem dX5_insert_112 : decode cX5_insert 112 = .ok (.getfield 21, 3) := by decide +kernel
theorem dX5_insert_115 : decode cX5_insert 115 = .ok (.iconst 1, 1) := by decide +kernel
theorem dX5_insert_116 : decode cX5_insert 116 = .ok (.iadd, 1) := by decide +kernel
theorem dX5_insert_117 : decode cX5_insert 117 = .ok (.putfield 21, 3) := by decide +kernel
theorem dX5_insert_120 : decode cX5_insert 120 = .ok (.return_, 1) := by decide +kernel
theorem dX5_remove_0 : decode cX5_remove 0 = .ok (.aload_n 0, 1) := by decide +kernel
theorem dX5_remove_1 : decode cX5_remove 1 = .ok (.iload_n 1, 1) := by decide +kernel
theorem dX5_remove_2 : decode cX5_remove 2 = .ok (.invokevirtual 31, 3) := by decide +kernel
theorem dX5_remove_5 : decode cX5_remove 5 = .ok (.ifCond .ne 4, 3) := by decide +kernel
theorem dX5_remove_8 : decode cX5_remove 8 = .ok (.return_, 1) := by decide +kernel
theorem dX5_remove_9 : decode cX5_remove 9 = .ok (.aload_n 0, 1) := by decide +kernel
theorem dX5_remove_10 : decode cX5_remove 10 = .ok (.dup, 1) := by decide +kernel
theorem dX5_remove_11 : decode cX5_remove 11 = .ok (.getfield 21, 3) := by decide +kernel
theorem dX5_remove_14 : decode cX5_remove 14 = .ok (.iconst 1, 1) := by decide +kernel
theorem dX5_remove_15 : decode cX5_remove 15 = .ok (.isub, 1) := by decide +kernel
theorem dX5_remove_16 : decode cX5_remove 16 = .ok (.putfield 21, 3) := by decide +kernel
theorem dX5_remove_19 : decode cX5_remove 19 = .ok (.iload_n 1, 1) := by decide +kernel
theorem dX5_remove_20 : decode cX5_remove 20 = .ok (.istore_n 2, 1) := by decide +kernel
theorem dX5_remove_21 : decode cX5_remove 21 = .ok (.iload_n 2, 1) := by decide +kernel
theorem dX5_remove_22 : decode cX5_remove 22 = .ok (.aload_n 0, 1) := by decide +kernel
theorem dX5_remove_23 : decode cX5_remove 23 = .ok (.getfield 21, 3) := by decide +kernel
theorem dX5_remove_26 : decode cX5_remove 26 = .ok (.if_icmp .ge 51, 3) := by decide +kernel
theorem dX5_remove_29 : decode cX5_remove 29 = .ok (.aload_n 0, 1) := by decide +kernel
theorem dX5_remove_30 : decode cX5_remove 30 = .ok (.getfield 9, 3) := by decide +kernel
theorem dX5_remove_33 : decode cX5_remove 33 = .ok (.iload_n 2, 1) := by decide +kernel
theorem dX5_remove_34 : decode cX5_remove 34 = .ok (.aload_n 0, 1) := by decide +kernel
theorem dX5_remove_35 : decode cX5_remove 35 = .ok (.getfield 9, 3) := by decide +kernel
theorem dX5_remove_38 : decode cX5_remove 38 = .ok (.iload_n 2, 1) := by decide +kernel
theorem dX5_remove_39 : decode cX5_remove 39 = .ok (.iconst 1, 1) := by decide +kernel
theorem dX5_remove_40 : decode cX5_remove 40 = .ok (.iadd, 1) := by decide +kernel
theorem dX5_remove_41 : decode cX5_remove 41 = .ok (.iaload, 1) := by decide +kernel
theorem dX5_remove_42 : decode cX5_remove 42 = .ok (.iastore, 1) := by decide +kernel
theorem dX5_remove_43 : decode cX5_remove 43 = .ok (.aload_n 0, 1) := by decide +kernel
theorem dX5_remove_44 : decode cX5_remove 44 = .ok (.getfield 15, 3) := by decide +kernel
theorem dX5_remove_47 : decode cX5_remove 47 = .ok (.iload_n 2, 1) := by decide +kernel
theorem dX5_remove_48 : decode cX5_remove 48 = .ok (.aload_n 0, 1) := by decide +kernel
theorem dX5_remove_49 : decode cX5_remove 49 = .ok (.getfield 15, 3) := by decide +kernel
theorem dX5_remove_52 : decode cX5_remove 52 = .ok (.iload_n 2, 1) := by decide +kernel
theorem dX5_remove_53 : decode cX5_remove 53 = .ok (.iconst 1, 1) := by decide +kernel
theorem dX5_remove_54 : decode cX5_remove 54 = .ok (.iadd, 1) := by decide +kernel
theorem dX5_remove_55 : decode cX5_remove 55 = .ok (.iaload, 1) := by decide +kernel
theorem dX5_remove_56 : decode cX5_remove 56 = .ok (.iastore, 1) := by decide +kernel
theorem dX5_remove_57 : decode cX5_remove 57 = .ok (.aload_n 0, 1) := by decide +kernel
theorem dX5_remove_58 : decode cX5_remove 58 = .ok (.getfield 18, 3) := by decide +kernel
theorem dX5_remove_61 : decode cX5_remove 61 = .ok (.iload_n 2, 1) := by decide +kernel
theorem dX5_remove_62 : decode cX5_remove 62 = .ok (.aload_n 0, 1) := by decide +kernel
theorem dX5_remove_63 : decode cX5_remove 63 = .ok (.getfield 18, 3) := by decide +kernel
theorem dX5_remove_66 : decode cX5_remove 66 = .ok (.iload_n 2, 1) := by decide +kernel
theorem dX5_remove_67 : decode cX5_remove 67 = .ok (.iconst 1, 1) := by decide +kernel
theorem dX5_remove_68 : decode cX5_remove 68 = .ok (.iadd, 1) := by decide +kernel
theorem dX5_remove_69 : decode cX5_remove 69 = .ok (.iaload, 1) := by decide +kernel
theorem dX5_remove_70 : decode cX5_remove 70 = .ok (.iastore, 1) := by decide +kernel
theorem dX5_remove_71 : decode cX5_remove 71 = .ok (.iinc 2 1, 3) := by decide +kernel
theorem dX5_remove_74 : decode cX5_remove 74 = .ok (.goto (-53), 3) := by decide +kernel
theorem dX5_remove_77 : decode cX5_remove 77 = .ok (.return_, 1) := by decide +kernel
theorem dX5_takenOf_0 : decode cX5_takenOf 0 = .ok (.iconst 0, 1) := by decide +kernel
theorem dX5_takenOf_1 : decode cX5_takenOf 1 = .ok (.istore_n 2, 1) := by decide +kernel
theorem dX5_takenOf_2 : decode cX5_takenOf 2 = .ok (.iconst 0, 1) := by decide +kernel
theorem dX5_takenOf_3 : decode cX5_takenOf 3 = .ok (.istore_n 3, 1) := by decide +kernel
theorem dX5_takenOf_4 : decode cX5_takenOf 4 = .ok (.iload_n 3, 1) := by decide +kernel
theorem dX5_takenOf_5 : decode cX5_takenOf 5 = .ok (.aload_n 0, 1) := by decide +kernel
theorem dX5_takenOf_6 : decode cX5_takenOf 6 = .ok (.getfield 21, 3) := by decide +kernel
theorem dX5_takenOf_9 : decode cX5_takenOf 9 = .ok (.if_icmp .ge 38, 3) := by decide +kernel
theorem dX5_takenOf_12 : decode cX5_takenOf 12 = .ok (.aload_n 0, 1) := by decide +kernel
theorem dX5_takenOf_13 : decode cX5_takenOf 13 = .ok (.getfield 9, 3) := by decide +kernel
theorem dX5_takenOf_16 : decode cX5_takenOf 16 = .ok (.iload_n 3, 1) := by decide +kernel
theorem dX5_takenOf_17 : decode cX5_takenOf 17 = .ok (.iaload, 1) := by decide +kernel
theorem dX5_takenOf_18 : decode cX5_takenOf 18 = .ok (.iload_n 1, 1) := by decide +kernel
theorem dX5_takenOf_19 : decode cX5_takenOf 19 = .ok (.if_icmp .eq 13, 3) := by decide +kernel
theorem dX5_takenOf_22 : decode cX5_takenOf 22 = .ok (.aload_n 0, 1) := by decide +kernel
theorem dX5_takenOf_23 : decode cX5_takenOf 23 = .ok (.getfield 15, 3) := by decide +kernel
theorem dX5_takenOf_26 : decode cX5_takenOf 26 = .ok (.iload_n 3, 1) := by decide +kernel
theorem dX5_takenOf_27 : decode cX5_takenOf 27 = .ok (.iaload, 1) := by decide +kernel
theorem dX5_takenOf_28 : decode cX5_takenOf 28 = .ok (.iload_n 1, 1) := by decide +kernel
theorem dX5_takenOf_29 : decode cX5_takenOf 29 = .ok (.if_icmp .ne 12, 3) := by decide +kernel
theorem dX5_takenOf_32 : decode cX5_takenOf 32 = .ok (.iload_n 2, 1) := by decide +kernel
theorem dX5_takenOf_33 : decode cX5_takenOf 33 = .ok (.aload_n 0, 1) := by decide +kernel
theorem dX5_takenOf_34 : decode cX5_takenOf 34 = .ok (.getfield 18, 3) := by decide +kernel
theorem dX5_takenOf_37 : decode cX5_takenOf 37 = .ok (.iload_n 3, 1) := by decide +kernel
theorem dX5_takenOf_38 : decode cX5_takenOf 38 = .ok (.iaload, 1) := by decide +kernel
theorem dX5_takenOf_39 : decode cX5_takenOf 39 = .ok (.iadd, 1) := by decide +kernel
theorem dX5_takenOf_40 : decode cX5_takenOf 40 = .ok (.istore_n 2, 1) := by decide +kernel
theorem dX5_takenOf_41 : decode cX5_takenOf 41 = .ok (.iinc 3 1, 3) := by decide +kernel
theorem dX5_takenOf_44 : decode cX5_takenOf 44 = .ok (.goto (-40), 3) := by decide +kernel
theorem dX5_takenOf_47 : decode cX5_takenOf 47 = .ok (.iload_n 2, 1) := by decide +kernel
theorem dX5_takenOf_48 : decode cX5_takenOf 48 = .ok (.ireturn, 1) := by decide +kernel
theorem dX5_touches_0 : decode cX5_touches 0 = .ok (.aload_n 0, 1) := by decide +kernel
theorem dX5_touches_1 : decode cX5_touches 1 = .ok (.iload_n 1, 1) := by decide +kernel
theorem dX5_touches_2 : decode cX5_touches 2 = .ok (.invokevirtual 35, 3) := by decide +kernel
theorem dX5_touches_5 : decode cX5_touches 5 = .ok (.ifCond .le 7, 3) := by decide +kernel
theorem dX5_touches_8 : decode cX5_touches 8 = .ok (.iconst 1, 1) := by decide +kernel
theorem dX5_touches_9 : decode cX5_touches 9 = .ok (.goto 4, 3) := by decide +kernel
theorem dX5_touches_12 : decode cX5_touches 12 = .ok (.iconst 0, 1) := by decide +kernel
theorem dX5_touches_13 : decode cX5_touches 13 = .ok (.ireturn, 1) := by decide +kernel
theorem dX5_takenOn_0 : decode cX5_takenOn 0 = .ok (.iconst 0, 1) := by decide +kernel
theorem dX5_takenOn_1 : decode cX5_takenOn 1 = .ok (.istore_n 3, 1) := by decide +kernel
theorem dX5_takenOn_2 : decode cX5_takenOn 2 = .ok (.iconst 0, 1) := by decide +kernel
theorem dX5_takenOn_3 : decode cX5_takenOn 3 = .ok (.istore 4, 2) := by decide +kernel
theorem dX5_takenOn_5 : decode cX5_takenOn 5 = .ok (.iload 4, 2) := by decide +kernel
theorem dX5_takenOn_7 : decode cX5_takenOn 7 = .ok (.aload_n 0, 1) := by decide +kernel
theorem dX5_takenOn_8 : decode cX5_takenOn 8 = .ok (.getfield 21, 3) := by decide +kernel
theorem dX5_takenOn_11 : decode cX5_takenOn 11 = .ok (.if_icmp .ge 41, 3) := by decide +kernel
theorem dX5_takenOn_14 : decode cX5_takenOn 14 = .ok (.aload_n 0, 1) := by decide +kernel
theorem dX5_takenOn_15 : decode cX5_takenOn 15 = .ok (.getfield 9, 3) := by decide +kernel
theorem dX5_takenOn_18 : decode cX5_takenOn 18 = .ok (.iload 4, 2) := by decide +kernel
theorem dX5_takenOn_20 : decode cX5_takenOn 20 = .ok (.iaload, 1) := by decide +kernel
theorem dX5_takenOn_21 : decode cX5_takenOn 21 = .ok (.iload_n 1, 1) := by decide +kernel
theorem dX5_takenOn_22 : decode cX5_takenOn 22 = .ok (.if_icmp .ne 24, 3) := by decide +kernel
theorem dX5_takenOn_25 : decode cX5_takenOn 25 = .ok (.aload_n 0, 1) := by decide +kernel
theorem dX5_takenOn_26 : decode cX5_takenOn 26 = .ok (.getfield 15, 3) := by decide +kernel
theorem dX5_takenOn_29 : decode cX5_takenOn 29 = .ok (.iload 4, 2) := by decide +kernel
theorem dX5_takenOn_31 : decode cX5_takenOn 31 = .ok (.iaload, 1) := by decide +kernel
theorem dX5_takenOn_32 : decode cX5_takenOn 32 = .ok (.iload_n 2, 1) := by decide +kernel
theorem dX5_takenOn_33 : decode cX5_takenOn 33 = .ok (.if_icmp .ne 13, 3) := by decide +kernel
theorem dX5_takenOn_36 : decode cX5_takenOn 36 = .ok (.iload_n 3, 1) := by decide +kernel
theorem dX5_takenOn_37 : decode cX5_takenOn 37 = .ok (.aload_n 0, 1) := by decide +kernel
theorem dX5_takenOn_38 : decode cX5_takenOn 38 = .ok (.getfield 18, 3) := by decide +kernel
theorem dX5_takenOn_41 : decode cX5_takenOn 41 = .ok (.iload 4, 2) := by decide +kernel
theorem dX5_takenOn_43 : decode cX5_takenOn 43 = .ok (.iaload, 1) := by decide +kernel
theorem dX5_takenOn_44 : decode cX5_takenOn 44 = .ok (.iadd, 1) := by decide +kernel
theorem dX5_takenOn_45 : decode cX5_takenOn 45 = .ok (.istore_n 3, 1) := by decide +kernel
theorem dX5_takenOn_46 : decode cX5_takenOn 46 = .ok (.iinc 4 1, 3) := by decide +kernel
theorem dX5_takenOn_49 : decode cX5_takenOn 49 = .ok (.goto (-44), 3) := by decide +kernel
theorem dX5_takenOn_52 : decode cX5_takenOn 52 = .ok (.iload_n 3, 1) := by decide +kernel
theorem dX5_takenOn_53 : decode cX5_takenOn 53 = .ok (.ireturn, 1) := by decide +kernel
theorem dX6_init_0 : decode cX6_init 0 = .ok (.aload_n 0, 1) := by decide +kernel
theorem dX6_init_1 : decode cX6_init 1 = .ok (.invokespecial 3, 3) := by decide +kernel
theorem dX6_init_4 : decode cX6_init 4 = .ok (.aload_n 0, 1) := by decide +kernel
theorem dX6_init_5 : decode cX6_init 5 = .ok (.sipush 144, 3) := by decide +kernel
theorem dX6_init_8 : decode cX6_init 8 = .ok (.newarray .int, 2) := by decide +kernel
theorem dX6_init_10 : decode cX6_init 10 = .ok (.putfield 9, 3) := by decide +kernel
theorem dX6_init_13 : decode cX6_init 13 = .ok (.aload_n 0, 1) := by decide +kernel
theorem dX6_init_14 : decode cX6_init 14 = .ok (.sipush 144, 3) := by decide +kernel
theorem dX6_init_17 : decode cX6_init 17 = .ok (.newarray .int, 2) := by decide +kernel
theorem dX6_init_19 : decode cX6_init 19 = .ok (.putfield 15, 3) := by decide +kernel
theorem dX6_init_22 : decode cX6_init 22 = .ok (.return_, 1) := by decide +kernel
theorem dX6_fill_0 : decode cX6_fill 0 = .ok (.iconst 0, 1) := by decide +kernel
theorem dX6_fill_1 : decode cX6_fill 1 = .ok (.istore 5, 2) := by decide +kernel
theorem dX6_fill_3 : decode cX6_fill 3 = .ok (.iload 5, 2) := by decide +kernel
theorem dX6_fill_5 : decode cX6_fill 5 = .ok (.aload_n 1, 1) := by decide +kernel
theorem dX6_fill_6 : decode cX6_fill 6 = .ok (.getfield 18, 3) := by decide +kernel
theorem dX6_fill_9 : decode cX6_fill 9 = .ok (.if_icmp .ge 107, 3) := by decide +kernel
theorem dX6_fill_12 : decode cX6_fill 12 = .ok (.iconst 0, 1) := by decide +kernel
theorem dX6_fill_13 : decode cX6_fill 13 = .ok (.istore 6, 2) := by decide +kernel
theorem dX6_fill_15 : decode cX6_fill 15 = .ok (.iload 6, 2) := by decide +kernel
theorem dX6_fill_17 : decode cX6_fill 17 = .ok (.aload_n 1, 1) := by decide +kernel
theorem dX6_fill_18 : decode cX6_fill 18 = .ok (.getfield 18, 3) := by decide +kernel
theorem dX6_fill_21 : decode cX6_fill 21 = .ok (.if_icmp .ge 89, 3) := by decide +kernel
theorem dX6_fill_24 : decode cX6_fill 24 = .ok (.iload 5, 2) := by decide +kernel
theorem dX6_fill_26 : decode cX6_fill 26 = .ok (.bipush 12, 2) := by decide +kernel
theorem dX6_fill_28 : decode cX6_fill 28 = .ok (.imul, 1) := by decide +kernel
theorem dX6_fill_29 : decode cX6_fill 29 = .ok (.iload 6, 2) := by decide +kernel
theorem dX6_fill_31 : decode cX6_fill 31 = .ok (.iadd, 1) := by decide +kernel
theorem dX6_fill_32 : decode cX6_fill 32 = .ok (.istore 7, 2) := by decide +kernel
theorem dX6_fill_34 : decode cX6_fill 34 = .ok (.aload_n 0, 1) := by decide +kernel
theorem dX6_fill_35 : decode cX6_fill 35 = .ok (.getfield 9, 3) := by decide +kernel
theorem dX6_fill_38 : decode cX6_fill 38 = .ok (.iload 7, 2) := by decide +kernel
theorem dX6_fill_40 : decode cX6_fill 40 = .ok (.iconst (-1), 1) := by decide +kernel
theorem dX6_fill_41 : decode cX6_fill 41 = .ok (.iastore, 1) := by decide +kernel
theorem dX6_fill_42 : decode cX6_fill 42 = .ok (.aload_n 0, 1) := by decide +kernel
theorem dX6_fill_43 : decode cX6_fill 43 = .ok (.getfield 15, 3) := by decide +kernel
theorem dX6_fill_46 : decode cX6_fill 46 = .ok (.iload 7, 2) := by decide +kernel
theorem dX6_fill_48 : decode cX6_fill 48 = .ok (.iconst 0, 1) := by decide +kernel
theorem dX6_fill_49 : decode cX6_fill 49 = .ok (.iastore, 1) := by decide +kernel
theorem dX6_fill_50 : decode cX6_fill 50 = .ok (.aload_n 1, 1) := by decide +kernel
theorem dX6_fill_51 : decode cX6_fill 51 = .ok (.getfield 24, 3) := by decide +kernel
theorem dX6_fill_54 : decode cX6_fill 54 = .ok (.iload 5, 2) := by decide +kernel
theorem dX6_fill_56 : decode cX6_fill 56 = .ok (.iaload, 1) := by decide +kernel
theorem dX6_fill_57 : decode cX6_fill 57 = .ok (.ifCond .ge 47, 3) := by decide +kernel
theorem dX6_fill_60 : decode cX6_fill 60 = .ok (.aload_n 1, 1) := by decide +kernel
theorem dX6_fill_61 : decode cX6_fill 61 = .ok (.getfield 24, 3) := by decide +kernel
theorem dX6_fill_64 : decode cX6_fill 64 = .ok (.iload 6, 2) := by decide +kernel
theorem dX6_fill_66 : decode cX6_fill 66 = .ok (.iaload, 1) := by decide +kernel
theorem dX6_fill_67 : decode cX6_fill 67 = .ok (.ifCond .le 37, 3) := by decide +kernel
theorem dX6_fill_70 : decode cX6_fill 70 = .ok (.aload_n 0, 1) := by decide +kernel
theorem dX6_fill_71 : decode cX6_fill 71 = .ok (.getfield 9, 3) := by decide +kernel
theorem dX6_fill_74 : decode cX6_fill 74 = .ok (.iload 7, 2) := by decide +kernel
theorem dX6_fill_76 : decode cX6_fill 76 = .ok (.aload_n 1, 1) := by decide +kernel
theorem dX6_fill_77 : decode cX6_fill 77 = .ok (.aload_n 2, 1) := by decide +kernel
theorem dX6_fill_78 : decode cX6_fill 78 = .ok (.iload_n 3, 1) := by decide +kernel
theorem dX6_fill_79 : decode cX6_fill 79 = .ok (.aload 4, 2) := by decide +kernel
theorem dX6_fill_81 : decode cX6_fill 81 = .ok (.iload 5, 2) := by decide +kernel
theorem dX6_fill_83 : decode cX6_fill 83 = .ok (.iload 6, 2) := by decide +kernel
theorem dX6_fill_85 : decode cX6_fill 85 = .ok (.invokestatic 27, 3) := by decide +kernel
theorem dX6_fill_88 : decode cX6_fill 88 = .ok (.iastore, 1) := by decide +kernel
theorem dX6_fill_89 : decode cX6_fill 89 = .ok (.aload_n 0, 1) := by decide +kernel
theorem dX6_fill_90 : decode cX6_fill 90 = .ok (.getfield 15, 3) := by decide +kernel
theorem dX6_fill_93 : decode cX6_fill 93 = .ok (.iload 7, 2) := by decide +kernel
theorem dX6_fill_95 : decode cX6_fill 95 = .ok (.aload_n 1, 1) := by decide +kernel
theorem dX6_fill_96 : decode cX6_fill 96 = .ok (.iload 5, 2) := by decide +kernel
theorem dX6_fill_98 : decode cX6_fill 98 = .ok (.iload 6, 2) := by decide +kernel
theorem dX6_fill_100 : decode cX6_fill 100 = .ok (.invokevirtual 31, 3) := by decide +kernel
theorem dX6_fill_103 : decode cX6_fill 103 = .ok (.iastore, 1) := by decide +kernel
theorem dX6_fill_104 : decode cX6_fill 104 = .ok (.iinc 6 1, 3) := by decide +kernel
theorem dX6_fill_107 : decode cX6_fill 107 = .ok (.goto (-92), 3) := by decide +kernel
theorem dX6_fill_110 : decode cX6_fill 110 = .ok (.iinc 5 1, 3) := by decide +kernel
theorem dX6_fill_113 : decode cX6_fill 113 = .ok (.goto (-110), 3) := by decide +kernel
theorem dX6_fill_116 : decode cX6_fill 116 = .ok (.return_, 1) := by decide +kernel
theorem dX6_boundOf_0 : decode cX6_boundOf 0 = .ok (.aload_n 0, 1) := by decide +kernel
theorem dX6_boundOf_1 : decode cX6_boundOf 1 = .ok (.getfield 24, 3) := by decide +kernel
theorem dX6_boundOf_4 : decode cX6_boundOf 4 = .ok (.iload 4, 2) := by decide +kernel
theorem dX6_boundOf_6 : decode cX6_boundOf 6 = .ok (.iaload, 1) := by decide +kernel
theorem dX6_boundOf_7 : decode cX6_boundOf 7 = .ok (.ineg, 1) := by decide +kernel
theorem dX6_boundOf_8 : decode cX6_boundOf 8 = .ok (.istore 6, 2) := by decide +kernel
theorem dX6_boundOf_10 : decode cX6_boundOf 10 = .ok (.aload_n 0, 1) := by decide +kernel
theorem dX6_boundOf_11 : decode cX6_boundOf 11 = .ok (.getfield 24, 3) := by decide +kernel
theorem dX6_boundOf_14 : decode cX6_boundOf 14 = .ok (.iload 5, 2) := by decide +kernel
theorem dX6_boundOf_16 : decode cX6_boundOf 16 = .ok (.iaload, 1) := by decide +kernel
theorem dX6_boundOf_17 : decode cX6_boundOf 17 = .ok (.istore 7, 2) := by decide +kernel
theorem dX6_boundOf_19 : decode cX6_boundOf 19 = .ok (.aload_n 0, 1) := by decide +kernel
theorem dX6_boundOf_20 : decode cX6_boundOf 20 = .ok (.iload 4, 2) := by decide +kernel
theorem dX6_boundOf_22 : decode cX6_boundOf 22 = .ok (.iload 5, 2) := by decide +kernel
theorem dX6_boundOf_24 : decode cX6_boundOf 24 = .ok (.invokevirtual 35, 3) := by decide +kernel
theorem dX6_boundOf_27 : decode cX6_boundOf 27 = .ok (.ifCond .eq 34, 3) := by decide +kernel
theorem dX6_boundOf_30 : decode cX6_boundOf 30 = .ok (.iload_n 2, 1) := by decide +kernel
theorem dX6_boundOf_31 : decode cX6_boundOf 31 = .ok (.iconst 1, 1) := by decide +kernel
theorem dX6_boundOf_32 : decode cX6_boundOf 32 = .ok (.if_icmp .ne 27, 3) := by decide +kernel
theorem dX6_boundOf_35 : decode cX6_boundOf 35 = .ok (.aload_n 3, 1) := by decide +kernel
theorem dX6_boundOf_36 : decode cX6_boundOf 36 = .ok (.iload 5, 2) := by decide +kernel
theorem dX6_boundOf_38 : decode cX6_boundOf 38 = .ok (.iaload, 1) := by decide +kernel
theorem dX6_boundOf_39 : decode cX6_boundOf 39 = .ok (.aload_n 0, 1) := by decide +kernel
theorem dX6_boundOf_40 : decode cX6_boundOf 40 = .ok (.getfield 39, 3) := by decide +kernel
theorem dX6_boundOf_43 : decode cX6_boundOf 43 = .ok (.iload 4, 2) := by decide +kernel
theorem dX6_boundOf_45 : decode cX6_boundOf 45 = .ok (.iaload, 1) := by decide +kernel
theorem dX6_boundOf_46 : decode cX6_boundOf 46 = .ok (.if_icmp .le 13, 3) := by decide +kernel
theorem dX6_boundOf_49 : decode cX6_boundOf 49 = .ok (.iload 6, 2) := by decide +kernel
theorem dX6_boundOf_51 : decode cX6_boundOf 51 = .ok (.iload 7, 2) := by decide +kernel
theorem dX6_boundOf_53 : decode cX6_boundOf 53 = .ok (.invokestatic 42, 3) := by decide +kernel
theorem dX6_boundOf_56 : decode cX6_boundOf 56 = .ok (.goto 4, 3) := by decide +kernel
theorem dX6_boundOf_59 : decode cX6_boundOf 59 = .ok (.iconst (-1), 1) := by decide +kernel
theorem dX6_boundOf_60 : decode cX6_boundOf 60 = .ok (.ireturn, 1) := by decide +kernel
theorem dX6_boundOf_61 : decode cX6_boundOf 61 = .ok (.aload_n 3, 1) := by decide +kernel
theorem dX6_boundOf_62 : decode cX6_boundOf 62 = .ok (.iload 4, 2) := by decide +kernel
theorem dX6_boundOf_64 : decode cX6_boundOf 64 = .ok (.iaload, 1) := by decide +kernel
theorem dX6_boundOf_65 : decode cX6_boundOf 65 = .ok (.aload_n 3, 1) := by decide +kernel
theorem dX6_boundOf_66 : decode cX6_boundOf 66 = .ok (.iload 5, 2) := by decide +kernel
theorem dX6_boundOf_68 : decode cX6_boundOf 68 = .ok (.iaload, 1) := by decide +kernel
theorem dX6_boundOf_69 : decode cX6_boundOf 69 = .ok (.invokestatic 47, 3) := by decide +kernel
theorem dX6_boundOf_72 : decode cX6_boundOf 72 = .ok (.istore 8, 2) := by decide +kernel
theorem dX6_boundOf_74 : decode cX6_boundOf 74 = .ok (.aload_n 0, 1) := by decide +kernel
theorem dX6_boundOf_75 : decode cX6_boundOf 75 = .ok (.getfield 39, 3) := by decide +kernel
theorem dX6_boundOf_78 : decode cX6_boundOf 78 = .ok (.iload 4, 2) := by decide +kernel
theorem dX6_boundOf_80 : decode cX6_boundOf 80 = .ok (.iaload, 1) := by decide +kernel
theorem dX6_boundOf_81 : decode cX6_boundOf 81 = .ok (.aload_n 0, 1) := by decide +kernel
theorem dX6_boundOf_82 : decode cX6_boundOf 82 = .ok (.getfield 39, 3) := by decide +kernel
theorem dX6_boundOf_85 : decode cX6_boundOf 85 = .ok (.iload 5, 2) := by decide +kernel
theorem dX6_boundOf_87 : decode cX6_boundOf 87 = .ok (.iaload, 1) := by decide +kernel
theorem dX6_boundOf_88 : decode cX6_boundOf 88 = .ok (.invokestatic 42, 3) := by decide +kernel
theorem dX6_boundOf_91 : decode cX6_boundOf 91 = .ok (.istore 9, 2) := by decide +kernel
theorem dX6_boundOf_93 : decode cX6_boundOf 93 = .ok (.aload_n 1, 1) := by decide +kernel
theorem dX6_boundOf_94 : decode cX6_boundOf 94 = .ok (.aload_n 0, 1) := by decide +kernel
theorem dX6_boundOf_95 : decode cX6_boundOf 95 = .ok (.getfield 50, 3) := by decide +kernel
theorem dX6_boundOf_98 : decode cX6_boundOf 98 = .ok (.iload 4, 2) := by decide +kernel
theorem dX6_boundOf_100 : decode cX6_boundOf 100 = .ok (.iaload, 1) := by decide +kernel
theorem dX6_boundOf_101 : decode cX6_boundOf 101 = .ok (.aload_n 0, 1) := by decide +kernel
theorem dX6_boundOf_102 : decode cX6_boundOf 102 = .ok (.getfield 50, 3) := by decide +kernel
theorem dX6_boundOf_105 : decode cX6_boundOf 105 = .ok (.iload 5, 2) := by decide +kernel
theorem dX6_boundOf_107 : decode cX6_boundOf 107 = .ok (.iaload, 1) := by decide +kernel
theorem dX6_boundOf_108 : decode cX6_boundOf 108 = .ok (.iload 8, 2) := by decide +kernel
theorem dX6_boundOf_110 : decode cX6_boundOf 110 = .ok (.iload 9, 2) := by decide +kernel
theorem dX6_boundOf_112 : decode cX6_boundOf 112 = .ok (.invokevirtual 53, 3) := by decide +kernel
theorem dX6_boundOf_115 : decode cX6_boundOf 115 = .ok (.istore 10, 2) := by decide +kernel
theorem dX6_boundOf_117 : decode cX6_boundOf 117 = .ok (.iconst 1, 1) := by decide +kernel
theorem dX6_boundOf_118 : decode cX6_boundOf 118 = .ok (.aload_n 0, 1) := by decide +kernel
theorem dX6_boundOf_119 : decode cX6_boundOf 119 = .ok (.getfield 39, 3) := by decide +kernel
theorem dX6_boundOf_122 : decode cX6_boundOf 122 = .ok (.iload 4, 2) := by decide +kernel
theorem dX6_boundOf_124 : decode cX6_boundOf 124 = .ok (.iaload, 1) := by decide +kernel
theorem dX6_boundOf_125 : decode cX6_boundOf 125 = .ok (.aload_n 3, 1) := by decide +kernel
theorem dX6_boundOf_126 : decode cX6_boundOf 126 = .ok (.iload 4, 2) := by decide +kernel
theorem dX6_boundOf_128 : decode cX6_boundOf 128 = .ok (.iaload, 1) := by decide +kernel
theorem dX6_boundOf_129 : decode cX6_boundOf 129 = .ok (.isub, 1) := by decide +kernel
theorem dX6_boundOf_130 : decode cX6_boundOf 130 = .ok (.iconst 1, 1) := by decide +kernel
theorem dX6_boundOf_131 : decode cX6_boundOf 131 = .ok (.iadd, 1) := by decide +kernel
theorem dX6_boundOf_132 : decode cX6_boundOf 132 = .ok (.invokestatic 47, 3) := by decide +kernel
theorem dX6_boundOf_135 : decode cX6_boundOf 135 = .ok (.istore 11, 2) := by decide +kernel
theorem dX6_boundOf_137 : decode cX6_boundOf 137 = .ok (.iconst 1, 1) := by decide +kernel
theorem dX6_boundOf_138 : decode cX6_boundOf 138 = .ok (.aload_n 0, 1) := by decide +kernel
theorem dX6_boundOf_139 : decode cX6_boundOf 139 = .ok (.getfield 39, 3) := by decide +kernel
theorem dX6_boundOf_142 : decode cX6_boundOf 142 = .ok (.iload 5, 2) := by decide +kernel
theorem dX6_boundOf_144 : decode cX6_boundOf 144 = .ok (.iaload, 1) := by decide +kernel
theorem dX6_boundOf_145 : decode cX6_boundOf 145 = .ok (.aload_n 3, 1) := by decide +kernel
theorem dX6_boundOf_146 : decode cX6_boundOf 146 = .ok (.iload 5, 2) := by decide +kernel
theorem dX6_boundOf_148 : decode cX6_boundOf 148 = .ok (.iaload, 1) := by decide +kernel
theorem dX6_boundOf_149 : decode cX6_boundOf 149 = .ok (.isub, 1) := by decide +kernel
theorem dX6_boundOf_150 : decode cX6_boundOf 150 = .ok (.iconst 1, 1) := by decide +kernel
theorem dX6_boundOf_151 : decode cX6_boundOf 151 = .ok (.iadd, 1) := by decide +kernel
theorem dX6_boundOf_152 : decode cX6_boundOf 152 = .ok (.invokestatic 47, 3) := by decide +kernel
theorem dX6_boundOf_155 : decode cX6_boundOf 155 = .ok (.istore 12, 2) := by decide +kernel
theorem dX6_boundOf_157 : decode cX6_boundOf 157 = .ok (.iload 6, 2) := by decide +kernel
theorem dX6_boundOf_159 : decode cX6_boundOf 159 = .ok (.iload 10, 2) := by decide +kernel
theorem dX6_boundOf_161 : decode cX6_boundOf 161 = .ok (.imul, 1) := by decide +kernel
theorem dX6_boundOf_162 : decode cX6_boundOf 162 = .ok (.iload 11, 2) := by decide +kernel
theorem dX6_boundOf_164 : decode cX6_boundOf 164 = .ok (.idiv, 1) := by decide +kernel
theorem dX6_boundOf_165 : decode cX6_boundOf 165 = .ok (.iload 7, 2) := by decide +kernel
theorem dX6_boundOf_167 : decode cX6_boundOf 167 = .ok (.iload 10, 2) := by decide +kernel
theorem dX6_boundOf_169 : decode cX6_boundOf 169 = .ok (.imul, 1) := by decide +kernel
theorem dX6_boundOf_170 : decode cX6_boundOf 170 = .ok (.iload 12, 2) := by decide +kernel
theorem dX6_boundOf_172 : decode cX6_boundOf 172 = .ok (.idiv, 1) := by decide +kernel
theorem dX6_boundOf_173 : decode cX6_boundOf 173 = .ok (.invokestatic 42, 3) := by decide +kernel
theorem dX6_boundOf_176 : decode cX6_boundOf 176 = .ok (.ireturn, 1) := by decide +kernel
theorem dX7_init_0 : decode cX7_init 0 = .ok (.aload_n 0, 1) := by decide +kernel
theorem dX7_init_1 : decode cX7_init 1 = .ok (.invokespecial 3, 3) := by decide +kernel
theorem dX7_init_4 : decode cX7_init 4 = .ok (.aload_n 0, 1) := by decide +kernel
theorem dX7_init_5 : decode cX7_init 5 = .ok (.bipush 24, 2) := by decide +kernel
theorem dX7_init_7 : decode cX7_init 7 = .ok (.newarray .int, 2) := by decide +kernel
theorem dX7_init_9 : decode cX7_init 9 = .ok (.putfield 9, 3) := by decide +kernel
theorem dX7_init_12 : decode cX7_init 12 = .ok (.aload_n 0, 1) := by decide +kernel
theorem dX7_init_13 : decode cX7_init 13 = .ok (.bipush 24, 2) := by decide +kernel
theorem dX7_init_15 : decode cX7_init 15 = .ok (.newarray .int, 2) := by decide +kernel
theorem dX7_init_17 : decode cX7_init 17 = .ok (.putfield 15, 3) := by decide +kernel
theorem dX7_init_20 : decode cX7_init 20 = .ok (.aload_n 0, 1) := by decide +kernel
theorem dX7_init_21 : decode cX7_init 21 = .ok (.bipush 24, 2) := by decide +kernel
theorem dX7_init_23 : decode cX7_init 23 = .ok (.newarray .int, 2) := by decide +kernel
theorem dX7_init_25 : decode cX7_init 25 = .ok (.putfield 18, 3) := by decide +kernel
theorem dX7_init_28 : decode cX7_init 28 = .ok (.aload_n 0, 1) := by decide +kernel
theorem dX7_init_29 : decode cX7_init 29 = .ok (.bipush 24, 2) := by decide +kernel
theorem dX7_init_31 : decode cX7_init 31 = .ok (.newarray .int, 2) := by decide +kernel
theorem dX7_init_33 : decode cX7_init 33 = .ok (.putfield 21, 3) := by decide +kernel
theorem dX7_init_36 : decode cX7_init 36 = .ok (.aload_n 0, 1) := by decide +kernel
theorem dX7_init_37 : decode cX7_init 37 = .ok (.iconst 0, 1) := by decide +kernel
theorem dX7_init_38 : decode cX7_init 38 = .ok (.putfield 24, 3) := by decide +kernel
theorem dX7_init_41 : decode cX7_init 41 = .ok (.return_, 1) := by decide +kernel
theorem dX7_add_0 : decode cX7_add 0 = .ok (.aload_n 0, 1) := by decide +kernel
theorem dX7_add_1 : decode cX7_add 1 = .ok (.getfield 24, 3) := by decide +kernel
theorem dX7_add_4 : decode cX7_add 4 = .ok (.bipush 24, 2) := by decide +kernel
theorem dX7_add_6 : decode cX7_add 6 = .ok (.if_icmp .ge 54, 3) := by decide +kernel
theorem dX7_add_9 : decode cX7_add 9 = .ok (.aload_n 0, 1) := by decide +kernel
theorem dX7_add_10 : decode cX7_add 10 = .ok (.getfield 9, 3) := by decide +kernel
theorem dX7_add_13 : decode cX7_add 13 = .ok (.aload_n 0, 1) := by decide +kernel
theorem dX7_add_14 : decode cX7_add 14 = .ok (.getfield 24, 3) := by decide +kernel
theorem dX7_add_17 : decode cX7_add 17 = .ok (.iload_n 1, 1) := by decide +kernel
theorem dX7_add_18 : decode cX7_add 18 = .ok (.iastore, 1) := by decide +kernel
theorem dX7_add_19 : decode cX7_add 19 = .ok (.aload_n 0, 1) := by decide +kernel
theorem dX7_add_20 : decode cX7_add 20 = .ok (.getfield 15, 3) := by decide +kernel
theorem dX7_add_23 : decode cX7_add 23 = .ok (.aload_n 0, 1) := by decide +kernel
theorem dX7_add_24 : decode cX7_add 24 = .ok (.getfield 24, 3) := by decide +kernel
theorem dX7_add_27 : decode cX7_add 27 = .ok (.iload_n 2, 1) := by decide +kernel
theorem dX7_add_28 : decode cX7_add 28 = .ok (.iastore, 1) := by decide +kernel
theorem dX7_add_29 : decode cX7_add 29 = .ok (.aload_n 0, 1) := by decide +kernel
theorem dX7_add_30 : decode cX7_add 30 = .ok (.getfield 18, 3) := by decide +kernel
theorem dX7_add_33 : decode cX7_add 33 = .ok (.aload_n 0, 1) := by decide +kernel
theorem dX7_add_34 : decode cX7_add 34 = .ok (.getfield 24, 3) := by decide +kernel
theorem dX7_add_37 : decode cX7_add 37 = .ok (.iload_n 3, 1) := by decide +kernel
theorem dX7_add_38 : decode cX7_add 38 = .ok (.iastore, 1) := by decide +kernel
theorem dX7_add_39 : decode cX7_add 39 = .ok (.aload_n 0, 1) := by decide +kernel
theorem dX7_add_40 : decode cX7_add 40 = .ok (.getfield 21, 3) := by decide +kernel
theorem dX7_add_43 : decode cX7_add 43 = .ok (.aload_n 0, 1) := by decide +kernel
theorem dX7_add_44 : decode cX7_add 44 = .ok (.getfield 24, 3) := by decide +kernel
theorem dX7_add_47 : decode cX7_add 47 = .ok (.iload 4, 2) := by decide +kernel
theorem dX7_add_49 : decode cX7_add 49 = .ok (.iastore, 1) := by decide +kernel
theorem dX7_add_50 : decode cX7_add 50 = .ok (.aload_n 0, 1) := by decide +kernel
theorem dX7_add_51 : decode cX7_add 51 = .ok (.dup, 1) := by decide +kernel
theorem dX7_add_52 : decode cX7_add 52 = .ok (.getfield 24, 3) := by decide +kernel
theorem dX7_add_55 : decode cX7_add 55 = .ok (.iconst 1, 1) := by decide +kernel
theorem dX7_add_56 : decode cX7_add 56 = .ok (.iadd, 1) := by decide +kernel
theorem dX7_add_57 : decode cX7_add 57 = .ok (.putfield 24, 3) := by decide +kernel
theorem dX7_add_60 : decode cX7_add 60 = .ok (.return_, 1) := by decide +kernel
theorem dX7_dropLast_0 : decode cX7_dropLast 0 = .ok (.aload_n 0, 1) := by decide +kernel
theorem dX7_dropLast_1 : decode cX7_dropLast 1 = .ok (.iconst 0, 1) := by decide +kernel
theorem dX7_dropLast_2 : decode cX7_dropLast 2 = .ok (.aload_n 0, 1) := by decide +kernel
theorem dX7_dropLast_3 : decode cX7_dropLast 3 = .ok (.getfield 24, 3) := by decide +kernel
theorem dX7_dropLast_6 : decode cX7_dropLast 6 = .ok (.iconst 1, 1) := by decide +kernel
theorem dX7_dropLast_7 : decode cX7_dropLast 7 = .ok (.isub, 1) := by decide +kernel
theorem dX7_dropLast_8 : decode cX7_dropLast 8 = .ok (.invokestatic 28, 3) := by decide +kernel
theorem dX7_dropLast_11 : decode cX7_dropLast 11 = .ok (.putfield 24, 3) := by decide +kernel
theorem dX7_dropLast_14 : decode cX7_dropLast 14 = .ok (.return_, 1) := by decide +kernel
theorem dX7_copy_0 : decode cX7_copy 0 = .ok (.aload_n 1, 1) := by decide +kernel
theorem dX7_copy_1 : decode cX7_copy 1 = .ok (.getfield 9, 3) := by decide +kernel
theorem dX7_copy_4 : decode cX7_copy 4 = .ok (.iconst 0, 1) := by decide +kernel
theorem dX7_copy_5 : decode cX7_copy 5 = .ok (.aload_n 0, 1) := by decide +kernel
theorem dX7_copy_6 : decode cX7_copy 6 = .ok (.getfield 9, 3) := by decide +kernel
theorem dX7_copy_9 : decode cX7_copy 9 = .ok (.iconst 0, 1) := by decide +kernel
theorem dX7_copy_10 : decode cX7_copy 10 = .ok (.bipush 24, 2) := by decide +kernel
theorem dX7_copy_12 : decode cX7_copy 12 = .ok (.invokestatic 34, 3) := by decide +kernel
theorem dX7_copy_15 : decode cX7_copy 15 = .ok (.aload_n 1, 1) := by decide +kernel
theorem dX7_copy_16 : decode cX7_copy 16 = .ok (.getfield 15, 3) := by decide +kernel
theorem dX7_copy_19 : decode cX7_copy 19 = .ok (.iconst 0, 1) := by decide +kernel
theorem dX7_copy_20 : decode cX7_copy 20 = .ok (.aload_n 0, 1) := by decide +kernel
theorem dX7_copy_21 : decode cX7_copy 21 = .ok (.getfield 15, 3) := by decide +kernel
theorem dX7_copy_24 : decode cX7_copy 24 = .ok (.iconst 0, 1) := by decide +kernel
theorem dX7_copy_25 : decode cX7_copy 25 = .ok (.bipush 24, 2) := by decide +kernel
theorem dX7_copy_27 : decode cX7_copy 27 = .ok (.invokestatic 34, 3) := by decide +kernel
theorem dX7_copy_30 : decode cX7_copy 30 = .ok (.aload_n 1, 1) := by decide +kernel
theorem dX7_copy_31 : decode cX7_copy 31 = .ok (.getfield 18, 3) := by decide +kernel
theorem dX7_copy_34 : decode cX7_copy 34 = .ok (.iconst 0, 1) := by decide +kernel
theorem dX7_copy_35 : decode cX7_copy 35 = .ok (.aload_n 0, 1) := by decide +kernel
theorem dX7_copy_36 : decode cX7_copy 36 = .ok (.getfield 18, 3) := by decide +kernel
theorem dX7_copy_39 : decode cX7_copy 39 = .ok (.iconst 0, 1) := by decide +kernel
theorem dX7_copy_40 : decode cX7_copy 40 = .ok (.bipush 24, 2) := by decide +kernel
theorem dX7_copy_42 : decode cX7_copy 42 = .ok (.invokestatic 34, 3) := by decide +kernel
theorem dX7_copy_45 : decode cX7_copy 45 = .ok (.aload_n 1, 1) := by decide +kernel
theorem dX7_copy_46 : decode cX7_copy 46 = .ok (.getfield 21, 3) := by decide +kernel
theorem dX7_copy_49 : decode cX7_copy 49 = .ok (.iconst 0, 1) := by decide +kernel
theorem dX7_copy_50 : decode cX7_copy 50 = .ok (.aload_n 0, 1) := by decide +kernel
theorem dX7_copy_51 : decode cX7_copy 51 = .ok (.getfield 21, 3) := by decide +kernel
theorem dX7_copy_54 : decode cX7_copy 54 = .ok (.iconst 0, 1) := by decide +kernel
theorem dX7_copy_55 : decode cX7_copy 55 = .ok (.bipush 24, 2) := by decide +kernel
theorem dX7_copy_57 : decode cX7_copy 57 = .ok (.invokestatic 34, 3) := by decide +kernel
theorem dX7_copy_60 : decode cX7_copy 60 = .ok (.aload_n 0, 1) := by decide +kernel
theorem dX7_copy_61 : decode cX7_copy 61 = .ok (.aload_n 1, 1) := by decide +kernel
theorem dX7_copy_62 : decode cX7_copy 62 = .ok (.getfield 24, 3) := by decide +kernel
theorem dX7_copy_65 : decode cX7_copy 65 = .ok (.putfield 24, 3) := by decide +kernel
theorem dX7_copy_68 : decode cX7_copy 68 = .ok (.return_, 1) := by decide +kernel
theorem dX8_init_0 : decode cX8_init 0 = .ok (.aload_n 0, 1) := by decide +kernel
theorem dX8_init_1 : decode cX8_init 1 = .ok (.invokespecial 3, 3) := by decide +kernel
theorem dX8_init_4 : decode cX8_init 4 = .ok (.aload_n 0, 1) := by decide +kernel
theorem dX8_init_5 : decode cX8_init 5 = .ok (.sipush 700, 3) := by decide +kernel
theorem dX8_init_8 : decode cX8_init 8 = .ok (.newarray .byte, 2) := by decide +kernel
theorem dX8_init_10 : decode cX8_init 10 = .ok (.putfield 9, 3) := by decide +kernel
theorem dX8_init_13 : decode cX8_init 13 = .ok (.aload_n 0, 1) := by decide +kernel
theorem dX8_init_14 : decode cX8_init 14 = .ok (.iconst 0, 1) := by decide +kernel
theorem dX8_init_15 : decode cX8_init 15 = .ok (.putfield 15, 3) := by decide +kernel
theorem dX8_init_18 : decode cX8_init 18 = .ok (.aload_n 0, 1) := by decide +kernel
theorem dX8_init_19 : decode cX8_init 19 = .ok (.iconst 0, 1) := by decide +kernel
theorem dX8_init_20 : decode cX8_init 20 = .ok (.putfield 19, 3) := by decide +kernel
theorem dX8_init_23 : decode cX8_init 23 = .ok (.aload_n 0, 1) := by decide +kernel
theorem dX8_init_24 : decode cX8_init 24 = .ok (.iconst 0, 1) := by decide +kernel
theorem dX8_init_25 : decode cX8_init 25 = .ok (.putfield 22, 3) := by decide +kernel
theorem dX8_init_28 : decode cX8_init 28 = .ok (.aload_n 0, 1) := by decide +kernel
theorem dX8_init_29 : decode cX8_init 29 = .ok (.iconst 0, 1) := by decide +kernel
theorem dX8_init_30 : decode cX8_init 30 = .ok (.putfield 25, 3) := by decide +kernel
theorem dX8_init_33 : decode cX8_init 33 = .ok (.aload_n 0, 1) := by decide +kernel
theorem dX8_init_34 : decode cX8_init 34 = .ok (.iconst 0, 1) := by decide +kernel
theorem dX8_init_35 : decode cX8_init 35 = .ok (.putfield 28, 3) := by decide +kernel
theorem dX8_init_38 : decode cX8_init 38 = .ok (.aload_n 0, 1) := by decide +kernel
theorem dX8_init_39 : decode cX8_init 39 = .ok (.iconst 0, 1) := by decide +kernel
theorem dX8_init_40 : decode cX8_init 40 = .ok (.putfield 31, 3) := by decide +kernel
theorem dX8_init_43 : decode cX8_init 43 = .ok (.aload_n 0, 1) := by decide +kernel
theorem dX8_init_44 : decode cX8_init 44 = .ok (.iconst 0, 1) := by decide +kernel
theorem dX8_init_45 : decode cX8_init 45 = .ok (.putfield 34, 3) := by decide +kernel
theorem dX8_init_48 : decode cX8_init 48 = .ok (.aload_n 0, 1) := by decide +kernel
theorem dX8_init_49 : decode cX8_init 49 = .ok (.iconst 0, 1) := by decide +kernel
theorem dX8_init_50 : decode cX8_init 50 = .ok (.putfield 37, 3) := by decide +kernel
theorem dX8_init_53 : decode cX8_init 53 = .ok (.aload_n 0, 1) := by decide +kernel
theorem dX8_init_54 : decode cX8_init 54 = .ok (.iconst 0, 1) := by decide +kernel
theorem dX8_init_55 : decode cX8_init 55 = .ok (.putfield 40, 3) := by decide +kernel
theorem dX8_init_58 : decode cX8_init 58 = .ok (.aload_n 0, 1) := by decide +kernel
theorem dX8_init_59 : decode cX8_init 59 = .ok (.iconst (-1), 1) := by decide +kernel
theorem dX8_init_60 : decode cX8_init 60 = .ok (.putfield 43, 3) := by decide +kernel
theorem dX8_init_63 : decode cX8_init 63 = .ok (.return_, 1) := by decide +kernel
theorem dX8_put_0 : decode cX8_put 0 = .ok (.bipush 24, 2) := by decide +kernel
theorem dX8_put_2 : decode cX8_put 2 = .ok (.istore_n 2, 1) := by decide +kernel
theorem dX8_put_3 : decode cX8_put 3 = .ok (.iload_n 2, 1) := by decide +kernel
theorem dX8_put_4 : decode cX8_put 4 = .ok (.ifCond .lt 42, 3) := by decide +kernel
theorem dX8_put_7 : decode cX8_put 7 = .ok (.aload_n 0, 1) := by decide +kernel
theorem dX8_put_8 : decode cX8_put 8 = .ok (.getfield 15, 3) := by decide +kernel
theorem dX8_put_11 : decode cX8_put 11 = .ok (.sipush 700, 3) := by decide +kernel
theorem dX8_put_14 : decode cX8_put 14 = .ok (.if_icmp .ge 26, 3) := by decide +kernel
theorem dX8_put_17 : decode cX8_put 17 = .ok (.aload_n 0, 1) := by decide +kernel
theorem dX8_put_18 : decode cX8_put 18 = .ok (.getfield 9, 3) := by decide +kernel
theorem dX8_put_21 : decode cX8_put 21 = .ok (.aload_n 0, 1) := by decide +kernel
theorem dX8_put_22 : decode cX8_put 22 = .ok (.getfield 15, 3) := by decide +kernel
theorem dX8_put_25 : decode cX8_put 25 = .ok (.iload_n 1, 1) := by decide +kernel
theorem dX8_put_26 : decode cX8_put 26 = .ok (.iload_n 2, 1) := by decide +kernel
theorem dX8_put_27 : decode cX8_put 27 = .ok (.ishr, 1) := by decide +kernel
theorem dX8_put_28 : decode cX8_put 28 = .ok (.i2b, 1) := by decide +kernel
theorem dX8_put_29 : decode cX8_put 29 = .ok (.bastore, 1) := by decide +kernel
theorem dX8_put_30 : decode cX8_put 30 = .ok (.aload_n 0, 1) := by decide +kernel
theorem dX8_put_31 : decode cX8_put 31 = .ok (.dup, 1) := by decide +kernel
theorem dX8_put_32 : decode cX8_put 32 = .ok (.getfield 15, 3) := by decide +kernel
theorem dX8_put_35 : decode cX8_put 35 = .ok (.iconst 1, 1) := by decide +kernel
theorem dX8_put_36 : decode cX8_put 36 = .ok (.iadd, 1) := by decide +kernel
theorem dX8_put_37 : decode cX8_put 37 = .ok (.putfield 15, 3) := by decide +kernel
theorem dX8_put_40 : decode cX8_put 40 = .ok (.iinc 2 (-8), 3) := by decide +kernel
theorem dX8_put_43 : decode cX8_put 43 = .ok (.goto (-40), 3) := by decide +kernel
theorem dX8_put_46 : decode cX8_put 46 = .ok (.return_, 1) := by decide +kernel
theorem dX8_read_0 : decode cX8_read 0 = .ok (.aload_n 0, 1) := by decide +kernel
theorem dX8_read_1 : decode cX8_read 1 = .ok (.iload_n 2, 1) := by decide +kernel
theorem dX8_read_2 : decode cX8_read 2 = .ok (.putfield 19, 3) := by decide +kernel
theorem dX8_read_5 : decode cX8_read 5 = .ok (.aload_n 0, 1) := by decide +kernel
theorem dX8_read_6 : decode cX8_read 6 = .ok (.iconst 0, 1) := by decide +kernel
theorem dX8_read_7 : decode cX8_read 7 = .ok (.putfield 22, 3) := by decide +kernel
theorem dX8_read_10 : decode cX8_read 10 = .ok (.aload_n 0, 1) := by decide +kernel
theorem dX8_read_11 : decode cX8_read 11 = .ok (.iconst 0, 1) := by decide +kernel
theorem dX8_read_12 : decode cX8_read 12 = .ok (.putfield 15, 3) := by decide +kernel
theorem dX8_read_15 : decode cX8_read 15 = .ok (.aload_n 0, 1) := by decide +kernel
theorem dX8_read_16 : decode cX8_read 16 = .ok (.iconst 0, 1) := by decide +kernel
theorem dX8_read_17 : decode cX8_read 17 = .ok (.putfield 34, 3) := by decide +kernel
theorem dX8_read_20 : decode cX8_read 20 = .ok (.aload_n 0, 1) := by decide +kernel
theorem dX8_read_21 : decode cX8_read 21 = .ok (.iconst 0, 1) := by decide +kernel
theorem dX8_read_22 : decode cX8_read 22 = .ok (.putfield 37, 3) := by decide +kernel
theorem dX8_read_25 : decode cX8_read 25 = .ok (.aload_n 0, 1) := by decide +kernel
theorem dX8_read_26 : decode cX8_read 26 = .ok (.iconst 0, 1) := by decide +kernel
theorem dX8_read_27 : decode cX8_read 27 = .ok (.putfield 40, 3) := by decide +kernel
theorem dX8_read_30 : decode cX8_read 30 = .ok (.aload_n 0, 1) := by decide +kernel
theorem dX8_read_31 : decode cX8_read 31 = .ok (.iconst (-1), 1) := by decide +kernel
theorem dX8_read_32 : decode cX8_read 32 = .ok (.putfield 43, 3) := by decide +kernel
theorem dX8_read_35 : decode cX8_read 35 = .ok (.aload_n 1, 1) := by decide +kernel
theorem dX8_read_36 : decode cX8_read 36 = .ok (.invokevirtual 46, 3) := by decide +kernel
theorem dX8_read_39 : decode cX8_read 39 = .ok (.aload_n 0, 1) := by decide +kernel
theorem dX8_read_40 : decode cX8_read 40 = .ok (.invokevirtual 51, 3) := by decide +kernel
theorem dX8_read_43 : decode cX8_read 43 = .ok (.iconst 0, 1) := by decide +kernel
theorem dX8_read_44 : decode cX8_read 44 = .ok (.istore_n 3, 1) := by decide +kernel
theorem dX8_read_45 : decode cX8_read 45 = .ok (.iload_n 3, 1) := by decide +kernel
theorem dX8_read_46 : decode cX8_read 46 = .ok (.sipush 700, 3) := by decide +kernel
theorem dX8_read_49 : decode cX8_read 49 = .ok (.if_icmp .ge 48, 3) := by decide +kernel
theorem dX8_read_52 : decode cX8_read 52 = .ok (.aload_n 0, 1) := by decide +kernel
theorem dX8_read_53 : decode cX8_read 53 = .ok (.getfield 25, 3) := by decide +kernel
theorem dX8_read_56 : decode cX8_read 56 = .ok (.ifCond .eq 41, 3) := by decide +kernel
theorem dX8_read_59 : decode cX8_read 59 = .ok (.aload_n 0, 1) := by decide +kernel
theorem dX8_read_60 : decode cX8_read 60 = .ok (.aload_n 1, 1) := by decide +kernel
theorem dX8_read_61 : decode cX8_read 61 = .ok (.invokevirtual 54, 3) := by decide +kernel
theorem dX8_read_64 : decode cX8_read 64 = .ok (.ifCond .eq 11, 3) := by decide +kernel
theorem dX8_read_67 : decode cX8_read 67 = .ok (.aload_n 0, 1) := by decide +kernel
theorem dX8_read_68 : decode cX8_read 68 = .ok (.iconst 5, 1) := by decide +kernel
theorem dX8_read_69 : decode cX8_read 69 = .ok (.invokevirtual 58, 3) := by decide +kernel
theorem dX8_read_72 : decode cX8_read 72 = .ok (.ifCond .ne 5, 3) := by decide +kernel
theorem dX8_read_75 : decode cX8_read 75 = .ok (.iconst 0, 1) := by decide +kernel
theorem dX8_read_76 : decode cX8_read 76 = .ok (.ireturn, 1) := by decide +kernel
theorem dX8_read_77 : decode cX8_read 77 = .ok (.aload_n 0, 1) := by decide +kernel
theorem dX8_read_78 : decode cX8_read 78 = .ok (.dup, 1) := by decide +kernel
theorem dX8_read_79 : decode cX8_read 79 = .ok (.getfield 34, 3) := by decide +kernel
theorem dX8_read_82 : decode cX8_read 82 = .ok (.iconst 1, 1) := by decide +kernel
theorem dX8_read_83 : decode cX8_read 83 = .ok (.iadd, 1) := by decide +kernel
theorem dX8_read_84 : decode cX8_read 84 = .ok (.putfield 34, 3) := by decide +kernel
theorem dX8_read_87 : decode cX8_read 87 = .ok (.aload_n 0, 1) := by decide +kernel
theorem dX8_read_88 : decode cX8_read 88 = .ok (.invokevirtual 51, 3) := by decide +kernel
theorem dX8_read_91 : decode cX8_read 91 = .ok (.iinc 3 1, 3) := by decide +kernel
theorem dX8_read_94 : decode cX8_read 94 = .ok (.goto (-49), 3) := by decide +kernel
theorem dX8_read_97 : decode cX8_read 97 = .ok (.iconst 1, 1) := by decide +kernel
theorem dX8_read_98 : decode cX8_read 98 = .ok (.ireturn, 1) := by decide +kernel
theorem dX8_fail_0 : decode cX8_fail 0 = .ok (.aload_n 0, 1) := by decide +kernel
theorem dX8_fail_1 : decode cX8_fail 1 = .ok (.iload_n 1, 1) := by decide +kernel
theorem dX8_fail_2 : decode cX8_fail 2 = .ok (.putfield 40, 3) := by decide +kernel
theorem dX8_fail_5 : decode cX8_fail 5 = .ok (.aload_n 0, 1) := by decide +kernel
theorem dX8_fail_6 : decode cX8_fail 6 = .ok (.aload_n 0, 1) := by decide +kernel
theorem dX8_fail_7 : decode cX8_fail 7 = .ok (.getfield 28, 3) := by decide +kernel
theorem dX8_fail_10 : decode cX8_fail 10 = .ok (.putfield 43, 3) := by decide +kernel
theorem dX8_fail_13 : decode cX8_fail 13 = .ok (.iconst 0, 1) := by decide +kernel
theorem dX8_fail_14 : decode cX8_fail 14 = .ok (.ireturn, 1) := by decide +kernel
theorem dX8_expect_0 : decode cX8_expect 0 = .ok (.aload_n 0, 1) := by decide +kernel
theorem dX8_expect_1 : decode cX8_expect 1 = .ok (.invokevirtual 51, 3) := by decide +kernel
theorem dX8_expect_4 : decode cX8_expect 4 = .ok (.aload_n 0, 1) := by decide +kernel
theorem dX8_expect_5 : decode cX8_expect 5 = .ok (.getfield 25, 3) := by decide +kernel
theorem dX8_expect_8 : decode cX8_expect 8 = .ok (.iload_n 1, 1) := by decide +kernel
theorem dX8_expect_9 : decode cX8_expect 9 = .ok (.if_icmp .eq 11, 3) := by decide +kernel
theorem dX8_expect_12 : decode cX8_expect 12 = .ok (.aload_n 0, 1) := by decide +kernel
theorem dX8_expect_13 : decode cX8_expect 13 = .ok (.iconst 1, 1) := by decide +kernel
theorem dX8_expect_14 : decode cX8_expect 14 = .ok (.invokevirtual 62, 3) := by decide +kernel
theorem dX8_expect_17 : decode cX8_expect 17 = .ok (.ifCond .eq 7, 3) := by decide +kernel
theorem dX8_expect_20 : decode cX8_expect 20 = .ok (.iconst 1, 1) := by decide +kernel
theorem dX8_expect_21 : decode cX8_expect 21 = .ok (.goto 4, 3) := by decide +kernel
theorem dX8_expect_24 : decode cX8_expect 24 = .ok (.iconst 0, 1) := by decide +kernel
theorem dX8_expect_25 : decode cX8_expect 25 = .ok (.ireturn, 1) := by decide +kernel
theorem dX8_expectNumber_0 : decode cX8_expectNumber 0 = .ok (.aload_n 0, 1) := by decide +kernel
theorem dX8_expectNumber_1 : decode cX8_expectNumber 1 = .ok (.invokevirtual 51, 3) := by decide +kernel
theorem dX8_expectNumber_4 : decode cX8_expectNumber 4 = .ok (.aload_n 0, 1) := by decide +kernel
theorem dX8_expectNumber_5 : decode cX8_expectNumber 5 = .ok (.getfield 25, 3) := by decide +kernel
theorem dX8_expectNumber_8 : decode cX8_expectNumber 8 = .ok (.iconst 3, 1) := by decide +kernel
theorem dX8_expectNumber_9 : decode cX8_expectNumber 9 = .ok (.if_icmp .eq 21, 3) := by decide +kernel
theorem dX8_expectNumber_12 : decode cX8_expectNumber 12 = .ok (.aload_n 0, 1) := by decide +kernel
theorem dX8_expectNumber_13 : decode cX8_expectNumber 13 = .ok (.getfield 25, 3) := by decide +kernel
theorem dX8_expectNumber_16 : decode cX8_expectNumber 16 = .ok (.iconst 4, 1) := by decide +kernel
theorem dX8_expectNumber_17 : decode cX8_expectNumber 17 = .ok (.if_icmp .ne 7, 3) := by decide +kernel
theorem dX8_expectNumber_20 : decode cX8_expectNumber 20 = .ok (.iload_n 1, 1) := by decide +kernel
theorem dX8_expectNumber_21 : decode cX8_expectNumber 21 = .ok (.ifCond .lt 9, 3) := by decide +kernel
theorem dX8_expectNumber_24 : decode cX8_expectNumber 24 = .ok (.aload_n 0, 1) := by decide +kernel
theorem dX8_expectNumber_25 : decode cX8_expectNumber 25 = .ok (.iconst 1, 1) := by decide +kernel
theorem dX8_expectNumber_26 : decode cX8_expectNumber 26 = .ok (.invokevirtual 62, 3) := by decide +kernel
theorem dX8_expectNumber_29 : decode cX8_expectNumber 29 = .ok (.ireturn, 1) := by decide +kernel
theorem dX8_expectNumber_30 : decode cX8_expectNumber 30 = .ok (.aload_n 0, 1) := by decide +kernel
theorem dX8_expectNumber_31 : decode cX8_expectNumber 31 = .ok (.getfield 31, 3) := by decide +kernel
theorem dX8_expectNumber_34 : decode cX8_expectNumber 34 = .ok (.iload_n 1, 1) := by decide +kernel
theorem dX8_expectNumber_35 : decode cX8_expectNumber 35 = .ok (.if_icmp .lt 11, 3) := by decide +kernel
theorem dX8_expectNumber_38 : decode cX8_expectNumber 38 = .ok (.aload_n 0, 1) := by decide +kernel
theorem dX8_expectNumber_39 : decode cX8_expectNumber 39 = .ok (.getfield 31, 3) := by decide +kernel
theorem dX8_expectNumber_42 : decode cX8_expectNumber 42 = .ok (.iload_n 2, 1) := by decide +kernel
theorem dX8_expectNumber_43 : decode cX8_expectNumber 43 = .ok (.if_icmp .le 11, 3) := by decide +kernel
theorem dX8_expectNumber_46 : decode cX8_expectNumber 46 = .ok (.aload_n 0, 1) := by decide +kernel
theorem dX8_expectNumber_47 : decode cX8_expectNumber 47 = .ok (.iconst 2, 1) := by decide +kernel
theorem dX8_expectNumber_48 : decode cX8_expectNumber 48 = .ok (.invokevirtual 62, 3) := by decide +kernel
theorem dX8_expectNumber_51 : decode cX8_expectNumber 51 = .ok (.ifCond .eq 7, 3) := by decide +kernel
theorem dX8_expectNumber_54 : decode cX8_expectNumber 54 = .ok (.iconst 1, 1) := by decide +kernel
theorem dX8_expectNumber_55 : decode cX8_expectNumber 55 = .ok (.goto 4, 3) := by decide +kernel
theorem dX8_expectNumber_58 : decode cX8_expectNumber 58 = .ok (.iconst 0, 1) := by decide +kernel
theorem dX8_expectNumber_59 : decode cX8_expectNumber 59 = .ok (.ireturn, 1) := by decide +kernel
theorem dX8_expectMember_0 : decode cX8_expectMember 0 = .ok (.aload_n 0, 1) := by decide +kernel
theorem dX8_expectMember_1 : decode cX8_expectMember 1 = .ok (.invokevirtual 51, 3) := by decide +kernel
theorem dX8_expectMember_4 : decode cX8_expectMember 4 = .ok (.aload_n 0, 1) := by decide +kernel
theorem dX8_expectMember_5 : decode cX8_expectMember 5 = .ok (.getfield 25, 3) := by decide +kernel
theorem dX8_expectMember_8 : decode cX8_expectMember 8 = .ok (.iconst 2, 1) := by decide +kernel
theorem dX8_expectMember_9 : decode cX8_expectMember 9 = .ok (.if_icmp .eq 9, 3) := by decide +kernel
theorem dX8_expectMember_12 : decode cX8_expectMember 12 = .ok (.aload_n 0, 1) := by decide +kernel
theorem dX8_expectMember_13 : decode cX8_expectMember 13 = .ok (.iconst 1, 1) := by decide +kernel
theorem dX8_expectMember_14 : decode cX8_expectMember 14 = .ok (.invokevirtual 62, 3) := by decide +kernel
theorem dX8_expectMember_17 : decode cX8_expectMember 17 = .ok (.ireturn, 1) := by decide +kernel
theorem dX8_expectMember_18 : decode cX8_expectMember 18 = .ok (.aload_n 0, 1) := by decide +kernel
theorem dX8_expectMember_19 : decode cX8_expectMember 19 = .ok (.aload_n 1, 1) := by decide +kernel
theorem dX8_expectMember_20 : decode cX8_expectMember 20 = .ok (.aload_n 0, 1) := by decide +kernel
theorem dX8_expectMember_21 : decode cX8_expectMember 21 = .ok (.getfield 31, 3) := by decide +kernel
theorem dX8_expectMember_24 : decode cX8_expectMember 24 = .ok (.invokevirtual 65, 3) := by decide +kernel
theorem dX8_expectMember_27 : decode cX8_expectMember 27 = .ok (.putfield 31, 3) := by decide +kernel
theorem dX8_expectMember_30 : decode cX8_expectMember 30 = .ok (.aload_n 0, 1) := by decide +kernel
theorem dX8_expectMember_31 : decode cX8_expectMember 31 = .ok (.getfield 31, 3) := by decide +kernel
theorem dX8_expectMember_34 : decode cX8_expectMember 34 = .ok (.ifCond .ge 11, 3) := by decide +kernel
theorem dX8_expectMember_37 : decode cX8_expectMember 37 = .ok (.aload_n 0, 1) := by decide +kernel
theorem dX8_expectMember_38 : decode cX8_expectMember 38 = .ok (.iconst 4, 1) := by decide +kernel
theorem dX8_expectMember_39 : decode cX8_expectMember 39 = .ok (.invokevirtual 62, 3) := by decide +kernel
theorem dX8_expectMember_42 : decode cX8_expectMember 42 = .ok (.ifCond .eq 7, 3) := by decide +kernel
theorem dX8_expectMember_45 : decode cX8_expectMember 45 = .ok (.iconst 1, 1) := by decide +kernel
theorem dX8_expectMember_46 : decode cX8_expectMember 46 = .ok (.goto 4, 3) := by decide +kernel
theorem dX8_expectMember_49 : decode cX8_expectMember 49 = .ok (.iconst 0, 1) := by decide +kernel
theorem dX8_expectMember_50 : decode cX8_expectMember 50 = .ok (.ireturn, 1) := by decide +kernel
theorem dX8_readLine_0 : decode cX8_readLine 0 = .ok (.aload_n 0, 1) := by decide +kernel
theorem dX8_readLine_1 : decode cX8_readLine 1 = .ok (.getfield 25, 3) := by decide +kernel
theorem dX8_readLine_4 : decode cX8_readLine 4 = .ok (.iconst 1, 1) := by decide +kernel
theorem dX8_readLine_5 : decode cX8_readLine 5 = .ok (.if_icmp .eq 9, 3) := by decide +kernel
theorem dX8_readLine_8 : decode cX8_readLine 8 = .ok (.aload_n 0, 1) := by decide +kernel
theorem dX8_readLine_9 : decode cX8_readLine 9 = .ok (.iconst 1, 1) := by decide +kernel
theorem dX8_readLine_10 : decode cX8_readLine 10 = .ok (.invokevirtual 62, 3) := by decide +kernel
theorem dX8_readLine_13 : decode cX8_readLine 13 = .ok (.ireturn, 1) := by decide +kernel
theorem dX8_readLine_14 : decode cX8_readLine 14 = .ok (.aload_n 0, 1) := by decide +kernel
theorem dX8_readLine_15 : decode cX8_readLine 15 = .ok (.getfield 31, 3) := by decide +kernel
theorem dX8_readLine_18 : decode cX8_readLine 18 = .ok (.tableswitch 44 0 2 #[26, 32, 38], 26) := by decide +kernel
theorem dX8_readLine_44 : decode cX8_readLine 44 = .ok (.aload_n 0, 1) := by decide +kernel
theorem dX8_readLine_45 : decode cX8_readLine 45 = .ok (.aload_n 1, 1) := by decide +kernel
theorem dX8_readLine_46 : decode cX8_readLine 46 = .ok (.invokevirtual 69, 3) := by decide +kernel
theorem dX8_readLine_49 : decode cX8_readLine 49 = .ok (.ireturn, 1) := by decide +kernel
theorem dX8_readLine_50 : decode cX8_readLine 50 = .ok (.aload_n 0, 1) := by decide +kernel
theorem dX8_readLine_51 : decode cX8_readLine 51 = .ok (.aload_n 1, 1) := by decide +kernel
theorem dX8_readLine_52 : decode cX8_readLine 52 = .ok (.invokevirtual 72, 3) := by decide +kernel
theorem dX8_readLine_55 : decode cX8_readLine 55 = .ok (.ireturn, 1) := by decide +kernel
theorem dX8_readLine_56 : decode cX8_readLine 56 = .ok (.aload_n 0, 1) := by decide +kernel
theorem dX8_readLine_57 : decode cX8_readLine 57 = .ok (.aload_n 1, 1) := by decide +kernel
theorem dX8_readLine_58 : decode cX8_readLine 58 = .ok (.invokevirtual 75, 3) := by decide +kernel
theorem dX8_readLine_61 : decode cX8_readLine 61 = .ok (.ireturn, 1) := by decide +kernel
theorem dX8_readLine_62 : decode cX8_readLine 62 = .ok (.aload_n 0, 1) := by decide +kernel
theorem dX8_readLine_63 : decode cX8_readLine 63 = .ok (.aload_n 1, 1) := by decide +kernel
theorem dX8_readLine_64 : decode cX8_readLine 64 = .ok (.aload_n 0, 1) := by decide +kernel
theorem dX8_readLine_65 : decode cX8_readLine 65 = .ok (.getfield 31, 3) := by decide +kernel
theorem dX8_readLine_68 : decode cX8_readLine 68 = .ok (.invokevirtual 78, 3) := by decide +kernel
theorem dX8_readLine_71 : decode cX8_readLine 71 = .ok (.ireturn, 1) := by decide +kernel
theorem dX8_readMember_0 : decode cX8_readMember 0 = .ok (.aload_n 1, 1) := by decide +kernel
theorem dX8_readMember_1 : decode cX8_readMember 1 = .ok (.getfield 82, 3) := by decide +kernel
theorem dX8_readMember_4 : decode cX8_readMember 4 = .ok (.istore_n 2, 1) := by decide +kernel
theorem dX8_readMember_5 : decode cX8_readMember 5 = .ok (.iload_n 2, 1) := by decide +kernel
theorem dX8_readMember_6 : decode cX8_readMember 6 = .ok (.bipush 8, 2) := by decide +kernel
theorem dX8_readMember_8 : decode cX8_readMember 8 = .ok (.if_icmp .lt 9, 3) := by decide +kernel
theorem dX8_readMember_11 : decode cX8_readMember 11 = .ok (.aload_n 0, 1) := by decide +kernel
theorem dX8_readMember_12 : decode cX8_readMember 12 = .ok (.iconst 2, 1) := by decide +kernel
theorem dX8_readMember_13 : decode cX8_readMember 13 = .ok (.invokevirtual 62, 3) := by decide +kernel
theorem dX8_readMember_16 : decode cX8_readMember 16 = .ok (.ireturn, 1) := by decide +kernel
theorem dX8_readMember_17 : decode cX8_readMember 17 = .ok (.aload_n 0, 1) := by decide +kernel
theorem dX8_readMember_18 : decode cX8_readMember 18 = .ok (.iconst 2, 1) := by decide +kernel
theorem dX8_readMember_19 : decode cX8_readMember 19 = .ok (.invokevirtual 58, 3) := by decide +kernel
theorem dX8_readMember_22 : decode cX8_readMember 22 = .ok (.ifCond .ne 5, 3) := by decide +kernel
theorem dX8_readMember_25 : decode cX8_readMember 25 = .ok (.iconst 0, 1) := by decide +kernel
theorem dX8_readMember_26 : decode cX8_readMember 26 = .ok (.ireturn, 1) := by decide +kernel
theorem dX8_readMember_27 : decode cX8_readMember 27 = .ok (.aload_n 1, 1) := by decide +kernel
theorem dX8_readMember_28 : decode cX8_readMember 28 = .ok (.aload_n 0, 1) := by decide +kernel
theorem dX8_readMember_29 : decode cX8_readMember 29 = .ok (.getfield 31, 3) := by decide +kernel
theorem dX8_readMember_32 : decode cX8_readMember 32 = .ok (.invokevirtual 65, 3) := by decide +kernel
theorem dX8_readMember_35 : decode cX8_readMember 35 = .ok (.ifCond .lt 9, 3) := by decide +kernel
theorem dX8_readMember_38 : decode cX8_readMember 38 = .ok (.aload_n 0, 1) := by decide +kernel
theorem dX8_readMember_39 : decode cX8_readMember 39 = .ok (.iconst 3, 1) := by decide +kernel
theorem dX8_readMember_40 : decode cX8_readMember 40 = .ok (.invokevirtual 62, 3) := by decide +kernel
theorem dX8_readMember_43 : decode cX8_readMember 43 = .ok (.ireturn, 1) := by decide +kernel
theorem dX8_readMember_44 : decode cX8_readMember 44 = .ok (.aload_n 1, 1) := by decide +kernel
theorem dX8_readMember_45 : decode cX8_readMember 45 = .ok (.getfield 85, 3) := by decide +kernel
theorem dX8_readMember_48 : decode cX8_readMember 48 = .ok (.iload_n 2, 1) := by decide +kernel
theorem dX8_readMember_49 : decode cX8_readMember 49 = .ok (.aload_n 0, 1) := by decide +kernel
theorem dX8_readMember_50 : decode cX8_readMember 50 = .ok (.getfield 31, 3) := by decide +kernel
theorem dX8_readMember_53 : decode cX8_readMember 53 = .ok (.iastore, 1) := by decide +kernel
theorem dX8_readMember_54 : decode cX8_readMember 54 = .ok (.aload_n 0, 1) := by decide +kernel
theorem dX8_readMember_55 : decode cX8_readMember 55 = .ok (.iconst 0, 1) := by decide +kernel
theorem dX8_readMember_56 : decode cX8_readMember 56 = .ok (.bipush 99, 2) := by decide +kernel
theorem dX8_readMember_58 : decode cX8_readMember 58 = .ok (.invokevirtual 89, 3) := by decide +kernel
theorem dX8_readMember_61 : decode cX8_readMember 61 = .ok (.ifCond .ne 5, 3) := by decide +kernel
theorem dX8_readMember_64 : decode cX8_readMember 64 = .ok (.iconst 0, 1) := by decide +kernel
theorem dX8_readMember_65 : decode cX8_readMember 65 = .ok (.ireturn, 1) := by decide +kernel
theorem dX8_readMember_66 : decode cX8_readMember 66 = .ok (.aload_n 1, 1) := by decide +kernel
theorem dX8_readMember_67 : decode cX8_readMember 67 = .ok (.getfield 93, 3) := by decide +kernel
theorem dX8_readMember_70 : decode cX8_readMember 70 = .ok (.iload_n 2, 1) := by decide +kernel
theorem dX8_readMember_71 : decode cX8_readMember 71 = .ok (.aload_n 0, 1) := by decide +kernel
theorem dX8_readMember_72 : decode cX8_readMember 72 = .ok (.getfield 31, 3) := by decide +kernel
theorem dX8_readMember_75 : decode cX8_readMember 75 = .ok (.iastore, 1) := by decide +kernel
theorem dX8_readMember_76 : decode cX8_readMember 76 = .ok (.aload_n 0, 1) := by decide +kernel
theorem dX8_readMember_77 : decode cX8_readMember 77 = .ok (.iconst 0, 1) := by decide +kernel
theorem dX8_readMember_78 : decode cX8_readMember 78 = .ok (.bipush 99, 2) := by decide +kernel
theorem dX8_readMember_80 : decode cX8_readMember 80 = .ok (.invokevirtual 89, 3) := by decide +kernel
theorem dX8_readMember_83 : decode cX8_readMember 83 = .ok (.ifCond .ne 5, 3) := by decide +kernel
theorem dX8_readMember_86 : decode cX8_readMember 86 = .ok (.iconst 0, 1) := by decide +kernel
theorem dX8_readMember_87 : decode cX8_readMember 87 = .ok (.ireturn, 1) := by decide +kernel
theorem dX8_readMember_88 : decode cX8_readMember 88 = .ok (.aload_n 1, 1) := by decide +kernel
theorem dX8_readMember_89 : decode cX8_readMember 89 = .ok (.getfield 96, 3) := by decide +kernel
theorem dX8_readMember_92 : decode cX8_readMember 92 = .ok (.iload_n 2, 1) := by decide +kernel
theorem dX8_readMember_93 : decode cX8_readMember 93 = .ok (.aload_n 0, 1) := by decide +kernel
theorem dX8_readMember_94 : decode cX8_readMember 94 = .ok (.getfield 31, 3) := by decide +kernel
theorem dX8_readMember_97 : decode cX8_readMember 97 = .ok (.iastore, 1) := by decide +kernel
theorem dX8_readMember_98 : decode cX8_readMember 98 = .ok (.aload_n 1, 1) := by decide +kernel
theorem dX8_readMember_99 : decode cX8_readMember 99 = .ok (.iload_n 2, 1) := by decide +kernel
theorem dX8_readMember_100 : decode cX8_readMember 100 = .ok (.iconst 1, 1) := by decide +kernel
theorem dX8_readMember_101 : decode cX8_readMember 101 = .ok (.iadd, 1) := by decide +kernel
theorem dX8_readMember_102 : decode cX8_readMember 102 = .ok (.putfield 82, 3) := by decide +kernel
theorem dX8_readMember_105 : decode cX8_readMember 105 = .ok (.iconst 1, 1) := by decide +kernel
theorem dX8_readMember_106 : decode cX8_readMember 106 = .ok (.ireturn, 1) := by decide +kernel
theorem dX8_readOwns_0 : decode cX8_readOwns 0 = .ok (.aload_n 1, 1) := by decide +kernel
theorem dX8_readOwns_1 : decode cX8_readOwns 1 = .ok (.getfield 99, 3) := by decide +kernel
theorem dX8_readOwns_4 : decode cX8_readOwns 4 = .ok (.getfield 103, 3) := by decide +kernel
theorem dX8_readOwns_7 : decode cX8_readOwns 7 = .ok (.bipush 16, 2) := by decide +kernel
theorem dX8_readOwns_9 : decode cX8_readOwns 9 = .ok (.if_icmp .lt 9, 3) := by decide +kernel
theorem dX8_readOwns_12 : decode cX8_readOwns 12 = .ok (.aload_n 0, 1) := by decide +kernel
theorem dX8_readOwns_13 : decode cX8_readOwns 13 = .ok (.iconst 2, 1) := by decide +kernel
theorem dX8_readOwns_14 : decode cX8_readOwns 14 = .ok (.invokevirtual 62, 3) := by decide +kernel
theorem dX8_readOwns_17 : decode cX8_readOwns 17 = .ok (.ireturn, 1) := by decide +kernel
theorem dX8_readOwns_18 : decode cX8_readOwns 18 = .ok (.aload_n 0, 1) := by decide +kernel
theorem dX8_readOwns_19 : decode cX8_readOwns 19 = .ok (.aload_n 1, 1) := by decide +kernel
theorem dX8_readOwns_20 : decode cX8_readOwns 20 = .ok (.invokevirtual 108, 3) := by decide +kernel
theorem dX8_readOwns_23 : decode cX8_readOwns 23 = .ok (.ifCond .ne 5, 3) := by decide +kernel
theorem dX8_readOwns_26 : decode cX8_readOwns 26 = .ok (.iconst 0, 1) := by decide +kernel
theorem dX8_readOwns_27 : decode cX8_readOwns 27 = .ok (.ireturn, 1) := by decide +kernel
theorem dX8_readOwns_28 : decode cX8_readOwns 28 = .ok (.aload_n 0, 1) := by decide +kernel
theorem dX8_readOwns_29 : decode cX8_readOwns 29 = .ok (.getfield 31, 3) := by decide +kernel
theorem dX8_readOwns_32 : decode cX8_readOwns 32 = .ok (.istore_n 2, 1) := by decide +kernel
theorem dX8_readOwns_33 : decode cX8_readOwns 33 = .ok (.aload_n 0, 1) := by decide +kernel
theorem dX8_readOwns_34 : decode cX8_readOwns 34 = .ok (.aload_n 1, 1) := by decide +kernel
theorem dX8_readOwns_35 : decode cX8_readOwns 35 = .ok (.invokevirtual 108, 3) := by decide +kernel
theorem dX8_readOwns_38 : decode cX8_readOwns 38 = .ok (.ifCond .ne 5, 3) := by decide +kernel
theorem dX8_readOwns_41 : decode cX8_readOwns 41 = .ok (.iconst 0, 1) := by decide +kernel
theorem dX8_readOwns_42 : decode cX8_readOwns 42 = .ok (.ireturn, 1) := by decide +kernel
theorem dX8_readOwns_43 : decode cX8_readOwns 43 = .ok (.aload_n 0, 1) := by decide +kernel
theorem dX8_readOwns_44 : decode cX8_readOwns 44 = .ok (.getfield 31, 3) := by decide +kernel
theorem dX8_readOwns_47 : decode cX8_readOwns 47 = .ok (.istore_n 3, 1) := by decide +kernel
theorem dX8_readOwns_48 : decode cX8_readOwns 48 = .ok (.iload_n 3, 1) := by decide +kernel
theorem dX8_readOwns_49 : decode cX8_readOwns 49 = .ok (.iload_n 2, 1) := by decide +kernel
theorem dX8_readOwns_50 : decode cX8_readOwns 50 = .ok (.if_icmp .gt 9, 3) := by decide +kernel
theorem dX8_readOwns_53 : decode cX8_readOwns 53 = .ok (.aload_n 0, 1) := by decide +kernel
theorem dX8_readOwns_54 : decode cX8_readOwns 54 = .ok (.iconst 2, 1) := by decide +kernel
theorem dX8_readOwns_55 : decode cX8_readOwns 55 = .ok (.invokevirtual 62, 3) := by decide +kernel
theorem dX8_readOwns_58 : decode cX8_readOwns 58 = .ok (.ireturn, 1) := by decide +kernel
theorem dX8_readOwns_59 : decode cX8_readOwns 59 = .ok (.aload_n 0, 1) := by decide +kernel
theorem dX8_readOwns_60 : decode cX8_readOwns 60 = .ok (.iconst 0, 1) := by decide +kernel
theorem dX8_readOwns_61 : decode cX8_readOwns 61 = .ok (.bipush 100, 2) := by decide +kernel
theorem dX8_readOwns_63 : decode cX8_readOwns 63 = .ok (.invokevirtual 89, 3) := by decide +kernel
theorem dX8_readOwns_66 : decode cX8_readOwns 66 = .ok (.ifCond .ne 5, 3) := by decide +kernel
theorem dX8_readOwns_69 : decode cX8_readOwns 69 = .ok (.iconst 0, 1) := by decide +kernel
theorem dX8_readOwns_70 : decode cX8_readOwns 70 = .ok (.ireturn, 1) := by decide +kernel
theorem dX8_readOwns_71 : decode cX8_readOwns 71 = .ok (.aload_n 0, 1) := by decide +kernel
theorem dX8_readOwns_72 : decode cX8_readOwns 72 = .ok (.getfield 31, 3) := by decide +kernel
theorem dX8_readOwns_75 : decode cX8_readOwns 75 = .ok (.istore 4, 2) := by decide +kernel
theorem dX8_readOwns_77 : decode cX8_readOwns 77 = .ok (.aload_n 0, 1) := by decide +kernel
theorem dX8_readOwns_78 : decode cX8_readOwns 78 = .ok (.iconst 0, 1) := by decide +kernel
theorem dX8_readOwns_79 : decode cX8_readOwns 79 = .ok (.sipush 999, 3) := by decide +kernel
theorem dX8_readOwns_82 : decode cX8_readOwns 82 = .ok (.invokevirtual 89, 3) := by decide +kernel
theorem dX8_readOwns_85 : decode cX8_readOwns 85 = .ok (.ifCond .ne 5, 3) := by decide +kernel
theorem dX8_readOwns_88 : decode cX8_readOwns 88 = .ok (.iconst 0, 1) := by decide +kernel
theorem dX8_readOwns_89 : decode cX8_readOwns 89 = .ok (.ireturn, 1) := by decide +kernel
theorem dX8_readOwns_90 : decode cX8_readOwns 90 = .ok (.aload_n 1, 1) := by decide +kernel
theorem dX8_readOwns_91 : decode cX8_readOwns 91 = .ok (.getfield 99, 3) := by decide +kernel
theorem dX8_readOwns_94 : decode cX8_readOwns 94 = .ok (.iload_n 2, 1) := by decide +kernel
theorem dX8_readOwns_95 : decode cX8_readOwns 95 = .ok (.iload_n 3, 1) := by decide +kernel
theorem dX8_readOwns_96 : decode cX8_readOwns 96 = .ok (.iload 4, 2) := by decide +kernel
theorem dX8_readOwns_98 : decode cX8_readOwns 98 = .ok (.aload_n 0, 1) := by decide +kernel
theorem dX8_readOwns_99 : decode cX8_readOwns 99 = .ok (.getfield 31, 3) := by decide +kernel
theorem dX8_readOwns_102 : decode cX8_readOwns 102 = .ok (.invokevirtual 111, 3) := by decide +kernel
theorem dX8_readOwns_105 : decode cX8_readOwns 105 = .ok (.iconst 1, 1) := by decide +kernel
theorem dX8_readOwns_106 : decode cX8_readOwns 106 = .ok (.ireturn, 1) := by decide +kernel
theorem dX8_readPeriod_0 : decode cX8_readPeriod 0 = .ok (.aload_n 1, 1) := by decide +kernel
theorem dX8_readPeriod_1 : decode cX8_readPeriod 1 = .ok (.getfield 115, 3) := by decide +kernel
theorem dX8_readPeriod_4 : decode cX8_readPeriod 4 = .ok (.istore_n 2, 1) := by decide +kernel
theorem dX8_readPeriod_5 : decode cX8_readPeriod 5 = .ok (.iload_n 2, 1) := by decide +kernel
theorem dX8_readPeriod_6 : decode cX8_readPeriod 6 = .ok (.bipush 12, 2) := by decide +kernel
theorem dX8_readPeriod_8 : decode cX8_readPeriod 8 = .ok (.if_icmp .lt 9, 3) := by decide +kernel
theorem dX8_readPeriod_11 : decode cX8_readPeriod 11 = .ok (.aload_n 0, 1) := by decide +kernel
theorem dX8_readPeriod_12 : decode cX8_readPeriod 12 = .ok (.iconst 2, 1) := by decide +kernel
theorem dX8_readPeriod_13 : decode cX8_readPeriod 13 = .ok (.invokevirtual 62, 3) := by decide +kernel
theorem dX8_readPeriod_16 : decode cX8_readPeriod 16 = .ok (.ireturn, 1) := by decide +kernel
theorem dX8_readPeriod_17 : decode cX8_readPeriod 17 = .ok (.aload_n 0, 1) := by decide +kernel
theorem dX8_readPeriod_18 : decode cX8_readPeriod 18 = .ok (.aload_n 1, 1) := by decide +kernel
theorem dX8_readPeriod_19 : decode cX8_readPeriod 19 = .ok (.invokevirtual 108, 3) := by decide +kernel
theorem dX8_readPeriod_22 : decode cX8_readPeriod 22 = .ok (.ifCond .ne 5, 3) := by decide +kernel
theorem dX8_readPeriod_25 : decode cX8_readPeriod 25 = .ok (.iconst 0, 1) := by decide +kernel
theorem dX8_readPeriod_26 : decode cX8_readPeriod 26 = .ok (.ireturn, 1) := by decide +kernel
theorem dX8_readPeriod_27 : decode cX8_readPeriod 27 = .ok (.aload_n 1, 1) := by decide +kernel
theorem dX8_readPeriod_28 : decode cX8_readPeriod 28 = .ok (.getfield 118, 3) := by decide +kernel
theorem dX8_readPeriod_31 : decode cX8_readPeriod 31 = .ok (.iload_n 2, 1) := by decide +kernel
theorem dX8_readPeriod_32 : decode cX8_readPeriod 32 = .ok (.aload_n 0, 1) := by decide +kernel
theorem dX8_readPeriod_33 : decode cX8_readPeriod 33 = .ok (.getfield 31, 3) := by decide +kernel
theorem dX8_readPeriod_36 : decode cX8_readPeriod 36 = .ok (.iastore, 1) := by decide +kernel
theorem dX8_readPeriod_37 : decode cX8_readPeriod 37 = .ok (.aload_n 0, 1) := by decide +kernel
theorem dX8_readPeriod_38 : decode cX8_readPeriod 38 = .ok (.iconst 0, 1) := by decide +kernel
theorem dX8_readPeriod_39 : decode cX8_readPeriod 39 = .ok (.sipush 999, 3) := by decide +kernel
theorem dX8_readPeriod_42 : decode cX8_readPeriod 42 = .ok (.invokevirtual 89, 3) := by decide +kernel
theorem dX8_readPeriod_45 : decode cX8_readPeriod 45 = .ok (.ifCond .ne 5, 3) := by decide +kernel
theorem dX8_readPeriod_48 : decode cX8_readPeriod 48 = .ok (.iconst 0, 1) := by decide +kernel
theorem dX8_readPeriod_49 : decode cX8_readPeriod 49 = .ok (.ireturn, 1) := by decide +kernel
theorem dX8_readPeriod_50 : decode cX8_readPeriod 50 = .ok (.aload_n 1, 1) := by decide +kernel
theorem dX8_readPeriod_51 : decode cX8_readPeriod 51 = .ok (.getfield 121, 3) := by decide +kernel
theorem dX8_readPeriod_54 : decode cX8_readPeriod 54 = .ok (.iload_n 2, 1) := by decide +kernel
theorem dX8_readPeriod_55 : decode cX8_readPeriod 55 = .ok (.aload_n 0, 1) := by decide +kernel
theorem dX8_readPeriod_56 : decode cX8_readPeriod 56 = .ok (.getfield 31, 3) := by decide +kernel
theorem dX8_readPeriod_59 : decode cX8_readPeriod 59 = .ok (.iastore, 1) := by decide +kernel
theorem dX8_readPeriod_60 : decode cX8_readPeriod 60 = .ok (.aload_n 0, 1) := by decide +kernel
theorem dX8_readPeriod_61 : decode cX8_readPeriod 61 = .ok (.aload_n 1, 1) := by decide +kernel
theorem dX8_readPeriod_62 : decode cX8_readPeriod 62 = .ok (.getfield 121, 3) := by decide +kernel
theorem dX8_readPeriod_65 : decode cX8_readPeriod 65 = .ok (.iload_n 2, 1) := by decide +kernel
theorem dX8_readPeriod_66 : decode cX8_readPeriod 66 = .ok (.iaload, 1) := by decide +kernel
theorem dX8_readPeriod_67 : decode cX8_readPeriod 67 = .ok (.sipush 999, 3) := by decide +kernel
theorem dX8_readPeriod_70 : decode cX8_readPeriod 70 = .ok (.invokevirtual 89, 3) := by decide +kernel
theorem dX8_readPeriod_73 : decode cX8_readPeriod 73 = .ok (.ifCond .ne 5, 3) := by decide +kernel
theorem dX8_readPeriod_76 : decode cX8_readPeriod 76 = .ok (.iconst 0, 1) := by decide +kernel
theorem dX8_readPeriod_77 : decode cX8_readPeriod 77 = .ok (.ireturn, 1) := by decide +kernel
theorem dX8_readPeriod_78 : decode cX8_readPeriod 78 = .ok (.aload_n 1, 1) := by decide +kernel
theorem dX8_readPeriod_79 : decode cX8_readPeriod 79 = .ok (.getfield 124, 3) := by decide +kernel
theorem dX8_readPeriod_82 : decode cX8_readPeriod 82 = .ok (.iload_n 2, 1) := by decide +kernel
theorem dX8_readPeriod_83 : decode cX8_readPeriod 83 = .ok (.aload_n 0, 1) := by decide +kernel
theorem dX8_readPeriod_84 : decode cX8_readPeriod 84 = .ok (.getfield 31, 3) := by decide +kernel
theorem dX8_readPeriod_87 : decode cX8_readPeriod 87 = .ok (.iastore, 1) := by decide +kernel
theorem dX8_readPeriod_88 : decode cX8_readPeriod 88 = .ok (.aload_n 1, 1) := by decide +kernel
theorem dX8_readPeriod_89 : decode cX8_readPeriod 89 = .ok (.aload_n 1, 1) := by decide +kernel
theorem dX8_readPeriod_90 : decode cX8_readPeriod 90 = .ok (.getfield 118, 3) := by decide +kernel
theorem dX8_readPeriod_93 : decode cX8_readPeriod 93 = .ok (.iload_n 2, 1) := by decide +kernel
theorem dX8_readPeriod_94 : decode cX8_readPeriod 94 = .ok (.iaload, 1) := by decide +kernel
theorem dX8_readPeriod_95 : decode cX8_readPeriod 95 = .ok (.aload_n 1, 1) := by decide +kernel
theorem dX8_readPeriod_96 : decode cX8_readPeriod 96 = .ok (.getfield 121, 3) := by decide +kernel
theorem dX8_readPeriod_99 : decode cX8_readPeriod 99 = .ok (.iload_n 2, 1) := by decide +kernel
theorem dX8_readPeriod_100 : decode cX8_readPeriod 100 = .ok (.iaload, 1) := by decide +kernel
theorem dX8_readPeriod_101 : decode cX8_readPeriod 101 = .ok (.aload_n 0, 1) := by decide +kernel
theorem dX8_readPeriod_102 : decode cX8_readPeriod 102 = .ok (.getfield 31, 3) := by decide +kernel
theorem dX8_readPeriod_105 : decode cX8_readPeriod 105 = .ok (.iload_n 2, 1) := by decide +kernel
theorem dX8_readPeriod_106 : decode cX8_readPeriod 106 = .ok (.invokevirtual 127, 3) := by decide +kernel
theorem dX8_readPeriod_109 : decode cX8_readPeriod 109 = .ok (.ifCond .eq 9, 3) := by decide +kernel
theorem dX8_readPeriod_112 : decode cX8_readPeriod 112 = .ok (.aload_n 0, 1) := by decide +kernel
theorem dX8_readPeriod_113 : decode cX8_readPeriod 113 = .ok (.iconst 3, 1) := by decide +kernel
theorem dX8_readPeriod_114 : decode cX8_readPeriod 114 = .ok (.invokevirtual 62, 3) := by decide +kernel
theorem dX8_readPeriod_117 : decode cX8_readPeriod 117 = .ok (.ireturn, 1) := by decide +kernel
theorem dX8_readPeriod_118 : decode cX8_readPeriod 118 = .ok (.aload_n 0, 1) := by decide +kernel
theorem dX8_readPeriod_119 : decode cX8_readPeriod 119 = .ok (.ldc 131, 2) := by decide +kernel
theorem dX8_readPeriod_121 : decode cX8_readPeriod 121 = .ok (.ldc 132, 2) := by decide +kernel
theorem dX8_readPeriod_123 : decode cX8_readPeriod 123 = .ok (.invokevirtual 89, 3) := by decide +kernel
theorem dX8_readPeriod_126 : decode cX8_readPeriod 126 = .ok (.ifCond .ne 5, 3) := by decide +kernel
theorem dX8_readPeriod_129 : decode cX8_readPeriod 129 = .ok (.iconst 0, 1) := by decide +kernel
theorem dX8_readPeriod_130 : decode cX8_readPeriod 130 = .ok (.ireturn, 1) := by decide +kernel
theorem dX8_readPeriod_131 : decode cX8_readPeriod 131 = .ok (.aload_n 1, 1) := by decide +kernel
theorem dX8_readPeriod_132 : decode cX8_readPeriod 132 = .ok (.getfield 133, 3) := by decide +kernel
theorem dX8_readPeriod_135 : decode cX8_readPeriod 135 = .ok (.iload_n 2, 1) := by decide +kernel
theorem dX8_readPeriod_136 : decode cX8_readPeriod 136 = .ok (.aload_n 0, 1) := by decide +kernel
theorem dX8_readPeriod_137 : decode cX8_readPeriod 137 = .ok (.getfield 31, 3) := by decide +kernel
theorem dX8_readPeriod_140 : decode cX8_readPeriod 140 = .ok (.iastore, 1) := by decide +kernel
theorem dX8_readPeriod_141 : decode cX8_readPeriod 141 = .ok (.aload_n 1, 1) := by decide +kernel
theorem dX8_readPeriod_142 : decode cX8_readPeriod 142 = .ok (.iload_n 2, 1) := by decide +kernel
theorem dX8_readPeriod_143 : decode cX8_readPeriod 143 = .ok (.iconst 1, 1) := by decide +kernel
theorem dX8_readPeriod_144 : decode cX8_readPeriod 144 = .ok (.iadd, 1) := by decide +kernel
theorem dX8_readPeriod_145 : decode cX8_readPeriod 145 = .ok (.putfield 115, 3) := by decide +kernel
theorem dX8_readPeriod_148 : decode cX8_readPeriod 148 = .ok (.iconst 1, 1) := by decide +kernel
theorem dX8_readPeriod_149 : decode cX8_readPeriod 149 = .ok (.ireturn, 1) := by decide +kernel
theorem dX8_readSetting_0 : decode cX8_readSetting 0 = .ok (.aload_n 0, 1) := by decide +kernel
theorem dX8_readSetting_1 : decode cX8_readSetting 1 = .ok (.getfield 37, 3) := by decide +kernel
theorem dX8_readSetting_4 : decode cX8_readSetting 4 = .ok (.iload_n 2, 1) := by decide +kernel
theorem dX8_readSetting_5 : decode cX8_readSetting 5 = .ok (.ishr, 1) := by decide +kernel
theorem dX8_readSetting_6 : decode cX8_readSetting 6 = .ok (.iconst 1, 1) := by decide +kernel
theorem dX8_readSetting_7 : decode cX8_readSetting 7 = .ok (.iand, 1) := by decide +kernel
theorem dX8_readSetting_8 : decode cX8_readSetting 8 = .ok (.iconst 1, 1) := by decide +kernel
theorem dX8_readSetting_9 : decode cX8_readSetting 9 = .ok (.if_icmp .ne 9, 3) := by decide +kernel
theorem dX8_readSetting_12 : decode cX8_readSetting 12 = .ok (.aload_n 0, 1) := by decide +kernel
theorem dX8_readSetting_13 : decode cX8_readSetting 13 = .ok (.iconst 3, 1) := by decide +kernel
theorem dX8_readSetting_14 : decode cX8_readSetting 14 = .ok (.invokevirtual 62, 3) := by decide +kernel
theorem dX8_readSetting_17 : decode cX8_readSetting 17 = .ok (.ireturn, 1) := by decide +kernel
theorem dX8_readSetting_18 : decode cX8_readSetting 18 = .ok (.aload_n 0, 1) := by decide +kernel
theorem dX8_readSetting_19 : decode cX8_readSetting 19 = .ok (.dup, 1) := by decide +kernel
theorem dX8_readSetting_20 : decode cX8_readSetting 20 = .ok (.getfield 37, 3) := by decide +kernel
theorem dX8_readSetting_23 : decode cX8_readSetting 23 = .ok (.iconst 1, 1) := by decide +kernel
theorem dX8_readSetting_24 : decode cX8_readSetting 24 = .ok (.iload_n 2, 1) := by decide +kernel
theorem dX8_readSetting_25 : decode cX8_readSetting 25 = .ok (.ishl, 1) := by decide +kernel
theorem dX8_readSetting_26 : decode cX8_readSetting 26 = .ok (.ior, 1) := by decide +kernel
theorem dX8_readSetting_27 : decode cX8_readSetting 27 = .ok (.putfield 37, 3) := by decide +kernel
theorem dX8_readSetting_30 : decode cX8_readSetting 30 = .ok (.iload_n 2, 1) := by decide +kernel
theorem dX8_readSetting_31 : decode cX8_readSetting 31 = .ok (.tableswitch 89 3 5 #[25, 47, 68], 25) := by decide +kernel
theorem dX8_readSetting_56 : decode cX8_readSetting 56 = .ok (.aload_n 0, 1) := by decide +kernel
theorem dX8_readSetting_57 : decode cX8_readSetting 57 = .ok (.iconst 1, 1) := by decide +kernel
theorem dX8_readSetting_58 : decode cX8_readSetting 58 = .ok (.bipush 100, 2) := by decide +kernel
theorem dX8_readSetting_60 : decode cX8_readSetting 60 = .ok (.invokevirtual 89, 3) := by decide +kernel
theorem dX8_readSetting_63 : decode cX8_readSetting 63 = .ok (.ifCond .ne 5, 3) := by decide +kernel
theorem dX8_readSetting_66 : decode cX8_readSetting 66 = .ok (.iconst 0, 1) := by decide +kernel
theorem dX8_readSetting_67 : decode cX8_readSetting 67 = .ok (.ireturn, 1) := by decide +kernel
theorem dX8_readSetting_68 : decode cX8_readSetting 68 = .ok (.aload_n 1, 1) := by decide +kernel
theorem dX8_readSetting_69 : decode cX8_readSetting 69 = .ok (.aload_n 0, 1) := by decide +kernel
theorem dX8_readSetting_70 : decode cX8_readSetting 70 = .ok (.getfield 31, 3) := by decide +kernel
theorem dX8_readSetting_73 : decode cX8_readSetting 73 = .ok (.putfield 136, 3) := by decide +kernel
theorem dX8_readSetting_76 : decode cX8_readSetting 76 = .ok (.iconst 1, 1) := by decide +kernel
theorem dX8_readSetting_77 : decode cX8_readSetting 77 = .ok (.ireturn, 1) := by decide +kernel
theorem dX8_readSetting_78 : decode cX8_readSetting 78 = .ok (.aload_n 0, 1) := by decide +kernel
theorem dX8_readSetting_79 : decode cX8_readSetting 79 = .ok (.iconst 0, 1) := by decide +kernel
theorem dX8_readSetting_80 : decode cX8_readSetting 80 = .ok (.iconst 2, 1) := by decide +kernel
theorem dX8_readSetting_81 : decode cX8_readSetting 81 = .ok (.invokevirtual 89, 3) := by decide +kernel
theorem dX8_readSetting_84 : decode cX8_readSetting 84 = .ok (.ifCond .ne 5, 3) := by decide +kernel
theorem dX8_readSetting_87 : decode cX8_readSetting 87 = .ok (.iconst 0, 1) := by decide +kernel
theorem dX8_readSetting_88 : decode cX8_readSetting 88 = .ok (.ireturn, 1) := by decide +kernel
theorem dX8_readSetting_89 : decode cX8_readSetting 89 = .ok (.aload_n 1, 1) := by decide +kernel
theorem dX8_readSetting_90 : decode cX8_readSetting 90 = .ok (.aload_n 0, 1) := by decide +kernel
theorem dX8_readSetting_91 : decode cX8_readSetting 91 = .ok (.getfield 31, 3) := by decide +kernel
theorem dX8_readSetting_94 : decode cX8_readSetting 94 = .ok (.putfield 139, 3) := by decide +kernel
theorem dX8_readSetting_97 : decode cX8_readSetting 97 = .ok (.iconst 1, 1) := by decide +kernel
theorem dX8_readSetting_98 : decode cX8_readSetting 98 = .ok (.ireturn, 1) := by decide +kernel
theorem dX8_readSetting_99 : decode cX8_readSetting 99 = .ok (.aload_n 0, 1) := by decide +kernel
theorem dX8_readSetting_100 : decode cX8_readSetting 100 = .ok (.iconst 0, 1) := by decide +kernel
theorem dX8_readSetting_101 : decode cX8_readSetting 101 = .ok (.iconst 1, 1) := by decide +kernel
theorem dX8_readSetting_102 : decode cX8_readSetting 102 = .ok (.invokevirtual 89, 3) := by decide +kernel
theorem dX8_readSetting_105 : decode cX8_readSetting 105 = .ok (.ifCond .ne 5, 3) := by decide +kernel
theorem dX8_readSetting_108 : decode cX8_readSetting 108 = .ok (.iconst 0, 1) := by decide +kernel
theorem dX8_readSetting_109 : decode cX8_readSetting 109 = .ok (.ireturn, 1) := by decide +kernel
theorem dX8_readSetting_110 : decode cX8_readSetting 110 = .ok (.aload_n 1, 1) := by decide +kernel
theorem dX8_readSetting_111 : decode cX8_readSetting 111 = .ok (.aload_n 0, 1) := by decide +kernel
theorem dX8_readSetting_112 : decode cX8_readSetting 112 = .ok (.getfield 31, 3) := by decide +kernel
theorem dX8_readSetting_115 : decode cX8_readSetting 115 = .ok (.putfield 142, 3) := by decide +kernel
theorem dX8_readSetting_118 : decode cX8_readSetting 118 = .ok (.iconst 1, 1) := by decide +kernel
theorem dX8_readSetting_119 : decode cX8_readSetting 119 = .ok (.ireturn, 1) := by decide +kernel
theorem dX8_readSetting_120 : decode cX8_readSetting 120 = .ok (.aload_n 0, 1) := by decide +kernel
theorem dX8_readSetting_121 : decode cX8_readSetting 121 = .ok (.iconst 0, 1) := by decide +kernel
theorem dX8_readSetting_122 : decode cX8_readSetting 122 = .ok (.ldc 132, 2) := by decide +kernel
theorem dX8_readSetting_124 : decode cX8_readSetting 124 = .ok (.invokevirtual 89, 3) := by decide +kernel
theorem dX8_readSetting_127 : decode cX8_readSetting 127 = .ok (.ifCond .ne 5, 3) := by decide +kernel
theorem dX8_readSetting_130 : decode cX8_readSetting 130 = .ok (.iconst 0, 1) := by decide +kernel
theorem dX8_readSetting_131 : decode cX8_readSetting 131 = .ok (.ireturn, 1) := by decide +kernel
theorem dX8_readSetting_132 : decode cX8_readSetting 132 = .ok (.aload_n 1, 1) := by decide +kernel
theorem dX8_readSetting_133 : decode cX8_readSetting 133 = .ok (.aload_n 0, 1) := by decide +kernel
theorem dX8_readSetting_134 : decode cX8_readSetting 134 = .ok (.getfield 31, 3) := by decide +kernel
theorem dX8_readSetting_137 : decode cX8_readSetting 137 = .ok (.putfield 145, 3) := by decide +kernel
theorem dX8_readSetting_140 : decode cX8_readSetting 140 = .ok (.iconst 1, 1) := by decide +kernel
theorem dX8_readSetting_141 : decode cX8_readSetting 141 = .ok (.ireturn, 1) := by decide +kernel
theorem dX8_next_0 : decode cX8_next 0 = .ok (.iconst 0, 1) := by decide +kernel
theorem dX8_next_1 : decode cX8_next 1 = .ok (.istore_n 1, 1) := by decide +kernel
theorem dX8_next_2 : decode cX8_next 2 = .ok (.iload_n 1, 1) := by decide +kernel
theorem dX8_next_3 : decode cX8_next 3 = .ok (.sipush 700, 3) := by decide +kernel
theorem dX8_next_6 : decode cX8_next 6 = .ok (.if_icmp .ge 29, 3) := by decide +kernel
theorem dX8_next_9 : decode cX8_next 9 = .ok (.aload_n 0, 1) := by decide +kernel
theorem dX8_next_10 : decode cX8_next 10 = .ok (.invokevirtual 148, 3) := by decide +kernel
theorem dX8_next_13 : decode cX8_next 13 = .ok (.invokestatic 152, 3) := by decide +kernel
theorem dX8_next_16 : decode cX8_next 16 = .ok (.ifCond .eq 19, 3) := by decide +kernel
theorem dX8_next_19 : decode cX8_next 19 = .ok (.aload_n 0, 1) := by decide +kernel
theorem dX8_next_20 : decode cX8_next 20 = .ok (.dup, 1) := by decide +kernel
theorem dX8_next_21 : decode cX8_next 21 = .ok (.getfield 22, 3) := by decide +kernel
theorem dX8_next_24 : decode cX8_next 24 = .ok (.iconst 1, 1) := by decide +kernel
theorem dX8_next_25 : decode cX8_next 25 = .ok (.iadd, 1) := by decide +kernel
theorem dX8_next_26 : decode cX8_next 26 = .ok (.putfield 22, 3) := by decide +kernel
theorem dX8_next_29 : decode cX8_next 29 = .ok (.iinc 1 1, 3) := by decide +kernel
theorem dX8_next_32 : decode cX8_next 32 = .ok (.goto (-30), 3) := by decide +kernel
theorem dX8_next_35 : decode cX8_next 35 = .ok (.aload_n 0, 1) := by decide +kernel
theorem dX8_next_36 : decode cX8_next 36 = .ok (.aload_n 0, 1) := by decide +kernel
theorem dX8_next_37 : decode cX8_next 37 = .ok (.getfield 22, 3) := by decide +kernel
theorem dX8_next_40 : decode cX8_next 40 = .ok (.putfield 28, 3) := by decide +kernel
theorem dX8_next_43 : decode cX8_next 43 = .ok (.aload_n 0, 1) := by decide +kernel
theorem dX8_next_44 : decode cX8_next 44 = .ok (.invokevirtual 148, 3) := by decide +kernel
theorem dX8_next_47 : decode cX8_next 47 = .ok (.istore_n 1, 1) := by decide +kernel
theorem dX8_next_48 : decode cX8_next 48 = .ok (.aload_n 0, 1) := by decide +kernel
theorem dX8_next_49 : decode cX8_next 49 = .ok (.getfield 22, 3) := by decide +kernel
theorem dX8_next_52 : decode cX8_next 52 = .ok (.aload_n 0, 1) := by decide +kernel
theorem dX8_next_53 : decode cX8_next 53 = .ok (.getfield 19, 3) := by decide +kernel
theorem dX8_next_56 : decode cX8_next 56 = .ok (.if_icmp .lt 11, 3) := by decide +kernel
theorem dX8_next_59 : decode cX8_next 59 = .ok (.aload_n 0, 1) := by decide +kernel
theorem dX8_next_60 : decode cX8_next 60 = .ok (.iconst 0, 1) := by decide +kernel
theorem dX8_next_61 : decode cX8_next 61 = .ok (.putfield 25, 3) := by decide +kernel
theorem dX8_next_64 : decode cX8_next 64 = .ok (.goto 63, 3) := by decide +kernel
theorem dX8_next_67 : decode cX8_next 67 = .ok (.iload_n 1, 1) := by decide +kernel
theorem dX8_next_68 : decode cX8_next 68 = .ok (.invokestatic 155, 3) := by decide +kernel
theorem dX8_next_71 : decode cX8_next 71 = .ok (.ifCond .eq 10, 3) := by decide +kernel
theorem dX8_next_74 : decode cX8_next 74 = .ok (.aload_n 0, 1) := by decide +kernel
theorem dX8_next_75 : decode cX8_next 75 = .ok (.invokevirtual 158, 3) := by decide +kernel
theorem dX8_next_78 : decode cX8_next 78 = .ok (.goto 49, 3) := by decide +kernel
theorem dX8_next_81 : decode cX8_next 81 = .ok (.iload_n 1, 1) := by decide +kernel
theorem dX8_next_82 : decode cX8_next 82 = .ok (.invokestatic 161, 3) := by decide +kernel
theorem dX8_next_85 : decode cX8_next 85 = .ok (.ifCond .ne 9, 3) := by decide +kernel
theorem dX8_next_88 : decode cX8_next 88 = .ok (.iload_n 1, 1) := by decide +kernel
theorem dX8_next_89 : decode cX8_next 89 = .ok (.bipush 45, 2) := by decide +kernel
theorem dX8_next_91 : decode cX8_next 91 = .ok (.if_icmp .ne 10, 3) := by decide +kernel
theorem dX8_next_94 : decode cX8_next 94 = .ok (.aload_n 0, 1) := by decide +kernel
theorem dX8_next_95 : decode cX8_next 95 = .ok (.invokevirtual 164, 3) := by decide +kernel
theorem dX8_next_98 : decode cX8_next 98 = .ok (.goto 29, 3) := by decide +kernel
theorem dX8_next_101 : decode cX8_next 101 = .ok (.aload_n 0, 1) := by decide +kernel
theorem dX8_next_102 : decode cX8_next 102 = .ok (.iload_n 1, 1) := by decide +kernel
theorem dX8_next_103 : decode cX8_next 103 = .ok (.bipush 59, 2) := by decide +kernel
theorem dX8_next_105 : decode cX8_next 105 = .ok (.if_icmp .ne 7, 3) := by decide +kernel
theorem dX8_next_108 : decode cX8_next 108 = .ok (.iconst 5, 1) := by decide +kernel
theorem dX8_next_109 : decode cX8_next 109 = .ok (.goto 5, 3) := by decide +kernel
theorem dX8_next_112 : decode cX8_next 112 = .ok (.bipush 6, 2) := by decide +kernel
theorem dX8_next_114 : decode cX8_next 114 = .ok (.putfield 25, 3) := by decide +kernel
theorem dX8_next_117 : decode cX8_next 117 = .ok (.aload_n 0, 1) := by decide +kernel
theorem dX8_next_118 : decode cX8_next 118 = .ok (.dup, 1) := by decide +kernel
theorem dX8_next_119 : decode cX8_next 119 = .ok (.getfield 22, 3) := by decide +kernel
theorem dX8_next_122 : decode cX8_next 122 = .ok (.iconst 1, 1) := by decide +kernel
theorem dX8_next_123 : decode cX8_next 123 = .ok (.iadd, 1) := by decide +kernel
theorem dX8_next_124 : decode cX8_next 124 = .ok (.putfield 22, 3) := by decide +kernel
theorem dX8_next_127 : decode cX8_next 127 = .ok (.return_, 1) := by decide +kernel
theorem dX8_readWord_0 : decode cX8_readWord 0 = .ok (.iconst 0, 1) := by decide +kernel
theorem dX8_readWord_1 : decode cX8_readWord 1 = .ok (.istore_n 1, 1) := by decide +kernel
theorem dX8_readWord_2 : decode cX8_readWord 2 = .ok (.iconst 0, 1) := by decide +kernel
theorem dX8_readWord_3 : decode cX8_readWord 3 = .ok (.istore_n 2, 1) := by decide +kernel
theorem dX8_readWord_4 : decode cX8_readWord 4 = .ok (.iconst 0, 1) := by decide +kernel
theorem dX8_readWord_5 : decode cX8_readWord 5 = .ok (.istore_n 3, 1) := by decide +kernel
theorem dX8_readWord_6 : decode cX8_readWord 6 = .ok (.iload_n 3, 1) := by decide +kernel
theorem dX8_readWord_7 : decode cX8_readWord 7 = .ok (.sipush 700, 3) := by decide +kernel
theorem dX8_readWord_10 : decode cX8_readWord 10 = .ok (.if_icmp .ge 57, 3) := by decide +kernel
theorem dX8_readWord_13 : decode cX8_readWord 13 = .ok (.aload_n 0, 1) := by decide +kernel
theorem dX8_readWord_14 : decode cX8_readWord 14 = .ok (.invokevirtual 148, 3) := by decide +kernel
theorem dX8_readWord_17 : decode cX8_readWord 17 = .ok (.invokestatic 155, 3) := by decide +kernel
theorem dX8_readWord_20 : decode cX8_readWord 20 = .ok (.ifCond .eq 47, 3) := by decide +kernel
theorem dX8_readWord_23 : decode cX8_readWord 23 = .ok (.iload_n 1, 1) := by decide +kernel
theorem dX8_readWord_24 : decode cX8_readWord 24 = .ok (.bipush 6, 2) := by decide +kernel
theorem dX8_readWord_26 : decode cX8_readWord 26 = .ok (.if_icmp .ge 22, 3) := by decide +kernel
theorem dX8_readWord_29 : decode cX8_readWord 29 = .ok (.iload_n 2, 1) := by decide +kernel
theorem dX8_readWord_30 : decode cX8_readWord 30 = .ok (.aload_n 0, 1) := by decide +kernel
theorem dX8_readWord_31 : decode cX8_readWord 31 = .ok (.invokevirtual 148, 3) := by decide +kernel
theorem dX8_readWord_34 : decode cX8_readWord 34 = .ok (.bipush 97, 2) := by decide +kernel
theorem dX8_readWord_36 : decode cX8_readWord 36 = .ok (.isub, 1) := by decide +kernel
theorem dX8_readWord_37 : decode cX8_readWord 37 = .ok (.iconst 1, 1) := by decide +kernel
theorem dX8_readWord_38 : decode cX8_readWord 38 = .ok (.iadd, 1) := by decide +kernel
theorem dX8_readWord_39 : decode cX8_readWord 39 = .ok (.bipush 25, 2) := by decide +kernel
theorem dX8_readWord_41 : decode cX8_readWord 41 = .ok (.iconst 5, 1) := by decide +kernel
theorem dX8_readWord_42 : decode cX8_readWord 42 = .ok (.iload_n 1, 1) := by decide +kernel
theorem dX8_readWord_43 : decode cX8_readWord 43 = .ok (.imul, 1) := by decide +kernel
theorem dX8_readWord_44 : decode cX8_readWord 44 = .ok (.isub, 1) := by decide +kernel
theorem dX8_readWord_45 : decode cX8_readWord 45 = .ok (.ishl, 1) := by decide +kernel
theorem dX8_readWord_46 : decode cX8_readWord 46 = .ok (.ior, 1) := by decide +kernel
theorem dX8_readWord_47 : decode cX8_readWord 47 = .ok (.istore_n 2, 1) := by decide +kernel
theorem dX8_readWord_48 : decode cX8_readWord 48 = .ok (.iinc 1 1, 3) := by decide +kernel
theorem dX8_readWord_51 : decode cX8_readWord 51 = .ok (.aload_n 0, 1) := by decide +kernel
theorem dX8_readWord_52 : decode cX8_readWord 52 = .ok (.dup, 1) := by decide +kernel
theorem dX8_readWord_53 : decode cX8_readWord 53 = .ok (.getfield 22, 3) := by decide +kernel
theorem dX8_readWord_56 : decode cX8_readWord 56 = .ok (.iconst 1, 1) := by decide +kernel
theorem dX8_readWord_57 : decode cX8_readWord 57 = .ok (.iadd, 1) := by decide +kernel
theorem dX8_readWord_58 : decode cX8_readWord 58 = .ok (.putfield 22, 3) := by decide +kernel
theorem dX8_readWord_61 : decode cX8_readWord 61 = .ok (.iinc 3 1, 3) := by decide +kernel
theorem dX8_readWord_64 : decode cX8_readWord 64 = .ok (.goto (-58), 3) := by decide +kernel
theorem dX8_readWord_67 : decode cX8_readWord 67 = .ok (.aload_n 0, 1) := by decide +kernel
theorem dX8_readWord_68 : decode cX8_readWord 68 = .ok (.iload_n 1, 1) := by decide +kernel
theorem dX8_readWord_69 : decode cX8_readWord 69 = .ok (.bipush 6, 2) := by decide +kernel
theorem dX8_readWord_71 : decode cX8_readWord 71 = .ok (.if_icmp .le 8, 3) := by decide +kernel
theorem dX8_readWord_74 : decode cX8_readWord 74 = .ok (.bipush 6, 2) := by decide +kernel
theorem dX8_readWord_76 : decode cX8_readWord 76 = .ok (.goto 4, 3) := by decide +kernel
theorem dX8_readWord_79 : decode cX8_readWord 79 = .ok (.iconst 2, 1) := by decide +kernel
theorem dX8_readWord_80 : decode cX8_readWord 80 = .ok (.putfield 25, 3) := by decide +kernel
theorem dX8_readWord_83 : decode cX8_readWord 83 = .ok (.aload_n 0, 1) := by decide +kernel
theorem dX8_readWord_84 : decode cX8_readWord 84 = .ok (.iload_n 2, 1) := by decide +kernel
theorem dX8_readWord_85 : decode cX8_readWord 85 = .ok (.putfield 31, 3) := by decide +kernel
theorem dX8_readWord_88 : decode cX8_readWord 88 = .ok (.iconst 0, 1) := by decide +kernel
theorem dX8_readWord_89 : decode cX8_readWord 89 = .ok (.istore_n 3, 1) := by decide +kernel
theorem dX8_readWord_90 : decode cX8_readWord 90 = .ok (.aload_n 0, 1) := by decide +kernel
theorem dX8_readWord_91 : decode cX8_readWord 91 = .ok (.getfield 25, 3) := by decide +kernel
theorem dX8_readWord_94 : decode cX8_readWord 94 = .ok (.iconst 2, 1) := by decide +kernel
theorem dX8_readWord_95 : decode cX8_readWord 95 = .ok (.if_icmp .ne 36, 3) := by decide +kernel
theorem dX8_readWord_98 : decode cX8_readWord 98 = .ok (.iload_n 3, 1) := by decide +kernel
theorem dX8_readWord_99 : decode cX8_readWord 99 = .ok (.getstatic 167, 3) := by decide +kernel
theorem dX8_readWord_102 : decode cX8_readWord 102 = .ok (.arraylength, 1) := by decide +kernel
theorem dX8_readWord_103 : decode cX8_readWord 103 = .ok (.if_icmp .ge 28, 3) := by decide +kernel
theorem dX8_readWord_106 : decode cX8_readWord 106 = .ok (.getstatic 167, 3) := by decide +kernel
theorem dX8_readWord_109 : decode cX8_readWord 109 = .ok (.iload_n 3, 1) := by decide +kernel
theorem dX8_readWord_110 : decode cX8_readWord 110 = .ok (.iaload, 1) := by decide +kernel
theorem dX8_readWord_111 : decode cX8_readWord 111 = .ok (.iload_n 2, 1) := by decide +kernel
theorem dX8_readWord_112 : decode cX8_readWord 112 = .ok (.if_icmp .ne 13, 3) := by decide +kernel
theorem dX8_readWord_115 : decode cX8_readWord 115 = .ok (.aload_n 0, 1) := by decide +kernel
theorem dX8_readWord_116 : decode cX8_readWord 116 = .ok (.iconst 1, 1) := by decide +kernel
theorem dX8_readWord_117 : decode cX8_readWord 117 = .ok (.putfield 25, 3) := by decide +kernel
theorem dX8_readWord_120 : decode cX8_readWord 120 = .ok (.aload_n 0, 1) := by decide +kernel
theorem dX8_readWord_121 : decode cX8_readWord 121 = .ok (.iload_n 3, 1) := by decide +kernel
theorem dX8_readWord_122 : decode cX8_readWord 122 = .ok (.putfield 31, 3) := by decide +kernel
theorem dX8_readWord_125 : decode cX8_readWord 125 = .ok (.iinc 3 1, 3) := by decide +kernel
theorem dX8_readWord_128 : decode cX8_readWord 128 = .ok (.goto (-38), 3) := by decide +kernel
theorem dX8_readWord_131 : decode cX8_readWord 131 = .ok (.return_, 1) := by decide +kernel
theorem dX8_readNumber_0 : decode cX8_readNumber 0 = .ok (.aload_n 0, 1) := by decide +kernel
theorem dX8_readNumber_1 : decode cX8_readNumber 1 = .ok (.invokevirtual 148, 3) := by decide +kernel
theorem dX8_readNumber_4 : decode cX8_readNumber 4 = .ok (.bipush 45, 2) := by decide +kernel
theorem dX8_readNumber_6 : decode cX8_readNumber 6 = .ok (.if_icmp .ne 7, 3) := by decide +kernel
theorem dX8_readNumber_9 : decode cX8_readNumber 9 = .ok (.iconst 1, 1) := by decide +kernel
theorem dX8_readNumber_10 : decode cX8_readNumber 10 = .ok (.goto 4, 3) := by decide +kernel
theorem dX8_readNumber_13 : decode cX8_readNumber 13 = .ok (.iconst 0, 1) := by decide +kernel
theorem dX8_readNumber_14 : decode cX8_readNumber 14 = .ok (.istore_n 1, 1) := by decide +kernel
theorem dX8_readNumber_15 : decode cX8_readNumber 15 = .ok (.iload_n 1, 1) := by decide +kernel
theorem dX8_readNumber_16 : decode cX8_readNumber 16 = .ok (.ifCond .eq 13, 3) := by decide +kernel
theorem dX8_readNumber_19 : decode cX8_readNumber 19 = .ok (.aload_n 0, 1) := by decide +kernel
theorem dX8_readNumber_20 : decode cX8_readNumber 20 = .ok (.dup, 1) := by decide +kernel
theorem dX8_readNumber_21 : decode cX8_readNumber 21 = .ok (.getfield 22, 3) := by decide +kernel
theorem dX8_readNumber_24 : decode cX8_readNumber 24 = .ok (.iconst 1, 1) := by decide +kernel
theorem dX8_readNumber_25 : decode cX8_readNumber 25 = .ok (.iadd, 1) := by decide +kernel
theorem dX8_readNumber_26 : decode cX8_readNumber 26 = .ok (.putfield 22, 3) := by decide +kernel
theorem dX8_readNumber_29 : decode cX8_readNumber 29 = .ok (.aload_n 0, 1) := by decide +kernel
theorem dX8_readNumber_30 : decode cX8_readNumber 30 = .ok (.iload_n 1, 1) := by decide +kernel
theorem dX8_readNumber_31 : decode cX8_readNumber 31 = .ok (.ifCond .eq 7, 3) := by decide +kernel
theorem dX8_readNumber_34 : decode cX8_readNumber 34 = .ok (.iconst 4, 1) := by decide +kernel
theorem dX8_readNumber_35 : decode cX8_readNumber 35 = .ok (.goto 4, 3) := by decide +kernel
theorem dX8_readNumber_38 : decode cX8_readNumber 38 = .ok (.iconst 3, 1) := by decide +kernel
theorem dX8_readNumber_39 : decode cX8_readNumber 39 = .ok (.putfield 25, 3) := by decide +kernel
theorem dX8_readNumber_42 : decode cX8_readNumber 42 = .ok (.aload_n 0, 1) := by decide +kernel
theorem dX8_readNumber_43 : decode cX8_readNumber 43 = .ok (.invokevirtual 148, 3) := by decide +kernel
theorem dX8_readNumber_46 : decode cX8_readNumber 46 = .ok (.invokestatic 161, 3) := by decide +kernel
theorem dX8_readNumber_49 : decode cX8_readNumber 49 = .ok (.ifCond .ne 9, 3) := by decide +kernel
theorem dX8_readNumber_52 : decode cX8_readNumber 52 = .ok (.aload_n 0, 1) := by decide +kernel
theorem dX8_readNumber_53 : decode cX8_readNumber 53 = .ok (.bipush 6, 2) := by decide +kernel
theorem dX8_readNumber_55 : decode cX8_readNumber 55 = .ok (.putfield 25, 3) := by decide +kernel
theorem dX8_readNumber_58 : decode cX8_readNumber 58 = .ok (.iconst 0, 1) := by decide +kernel
theorem dX8_readNumber_59 : decode cX8_readNumber 59 = .ok (.istore_n 2, 1) := by decide +kernel
theorem dX8_readNumber_60 : decode cX8_readNumber 60 = .ok (.iconst 0, 1) := by decide +kernel
theorem dX8_readNumber_61 : decode cX8_readNumber 61 = .ok (.istore_n 3, 1) := by decide +kernel
theorem dX8_readNumber_62 : decode cX8_readNumber 62 = .ok (.iload_n 3, 1) := by decide +kernel
theorem dX8_readNumber_63 : decode cX8_readNumber 63 = .ok (.sipush 700, 3) := by decide +kernel
theorem dX8_readNumber_66 : decode cX8_readNumber 66 = .ok (.if_icmp .ge 48, 3) := by decide +kernel
theorem dX8_readNumber_69 : decode cX8_readNumber 69 = .ok (.aload_n 0, 1) := by decide +kernel
theorem dX8_readNumber_70 : decode cX8_readNumber 70 = .ok (.invokevirtual 148, 3) := by decide +kernel
theorem dX8_readNumber_73 : decode cX8_readNumber 73 = .ok (.invokestatic 161, 3) := by decide +kernel
theorem dX8_readNumber_76 : decode cX8_readNumber 76 = .ok (.ifCond .eq 38, 3) := by decide +kernel
theorem dX8_readNumber_79 : decode cX8_readNumber 79 = .ok (.iload_n 2, 1) := by decide +kernel
theorem dX8_readNumber_80 : decode cX8_readNumber 80 = .ok (.ldc 170, 2) := by decide +kernel
theorem dX8_readNumber_82 : decode cX8_readNumber 82 = .ok (.if_icmp .ge 16, 3) := by decide +kernel
theorem dX8_readNumber_85 : decode cX8_readNumber 85 = .ok (.iload_n 2, 1) := by decide +kernel
theorem dX8_readNumber_86 : decode cX8_readNumber 86 = .ok (.bipush 10, 2) := by decide +kernel
theorem dX8_readNumber_88 : decode cX8_readNumber 88 = .ok (.imul, 1) := by decide +kernel
theorem dX8_readNumber_89 : decode cX8_readNumber 89 = .ok (.aload_n 0, 1) := by decide +kernel
theorem dX8_readNumber_90 : decode cX8_readNumber 90 = .ok (.invokevirtual 148, 3) := by decide +kernel
theorem dX8_readNumber_93 : decode cX8_readNumber 93 = .ok (.iadd, 1) := by decide +kernel
theorem dX8_readNumber_94 : decode cX8_readNumber 94 = .ok (.bipush 48, 2) := by decide +kernel
theorem dX8_readNumber_96 : decode cX8_readNumber 96 = .ok (.isub, 1) := by decide +kernel
theorem dX8_readNumber_97 : decode cX8_readNumber 97 = .ok (.istore_n 2, 1) := by decide +kernel
theorem dX8_readNumber_98 : decode cX8_readNumber 98 = .ok (.aload_n 0, 1) := by decide +kernel
theorem dX8_readNumber_99 : decode cX8_readNumber 99 = .ok (.dup, 1) := by decide +kernel
theorem dX8_readNumber_100 : decode cX8_readNumber 100 = .ok (.getfield 22, 3) := by decide +kernel
theorem dX8_readNumber_103 : decode cX8_readNumber 103 = .ok (.iconst 1, 1) := by decide +kernel
theorem dX8_readNumber_104 : decode cX8_readNumber 104 = .ok (.iadd, 1) := by decide +kernel
theorem dX8_readNumber_105 : decode cX8_readNumber 105 = .ok (.putfield 22, 3) := by decide +kernel
theorem dX8_readNumber_108 : decode cX8_readNumber 108 = .ok (.iinc 3 1, 3) := by decide +kernel
theorem dX8_readNumber_111 : decode cX8_readNumber 111 = .ok (.goto (-49), 3) := by decide +kernel
theorem dX8_readNumber_114 : decode cX8_readNumber 114 = .ok (.aload_n 0, 1) := by decide +kernel
theorem dX8_readNumber_115 : decode cX8_readNumber 115 = .ok (.iload_n 1, 1) := by decide +kernel
theorem dX8_readNumber_116 : decode cX8_readNumber 116 = .ok (.ifCond .eq 8, 3) := by decide +kernel
theorem dX8_readNumber_119 : decode cX8_readNumber 119 = .ok (.iload_n 2, 1) := by decide +kernel
theorem dX8_readNumber_120 : decode cX8_readNumber 120 = .ok (.ineg, 1) := by decide +kernel
theorem dX8_readNumber_121 : decode cX8_readNumber 121 = .ok (.goto 4, 3) := by decide +kernel
theorem dX8_readNumber_124 : decode cX8_readNumber 124 = .ok (.iload_n 2, 1) := by decide +kernel
