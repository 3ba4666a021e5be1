theorem lwt1 {w : Cond} {i : Nat} (h : tables_1_1[i]? = some w) (hg : goodWord w = true) : w ∈ lwg := List.mem_filter.mpr ⟨List.mem_append_right _ (have h := List.mem_of_getElem? h; by unfold tables_1; exact List.mem_append_left _ h), hg⟩
theorem lwt2 {w : Cond} {i : Nat} (h : tables_1_2[i]? = some w) (hg : goodWord w = true) : w ∈ lwg := List.mem_filter.mpr ⟨List.mem_append_right _ (have h := List.mem_of_getElem? h; by unfold tables_1; exact List.mem_append_right _ (List.mem_append_left _ h)), hg⟩
theorem lwt3 {w : Cond} {i : Nat} (h : tables_1_3[i]? = some w) (hg : goodWord w = true) : w ∈ lwg := List.mem_filter.mpr ⟨List.mem_append_right _ (have h := List.mem_of_getElem? h; by unfold tables_1; exact List.mem_append_right _ (List.mem_append_right _ (List.mem_append_left _ h))), hg⟩
theorem lwt4 {w : Cond} {i : Nat} (h : tables_1_4[i]? = some w) (hg : goodWord w = true) : w ∈ lwg := List.mem_filter.mpr ⟨List.mem_append_right _ (have h := List.mem_of_getElem? h; by unfold tables_1; exact List.mem_append_right _ (List.mem_append_right _ (List.mem_append_right _ (List.mem_append_left _ h)))), hg⟩
theorem lwt5 {w : Cond} {i : Nat} (h : tables_1_5[i]? = some w) (hg : goodWord w = true) : w ∈ lwg := List.mem_filter.mpr ⟨List.mem_append_right _ (have h := List.mem_of_getElem? h; by unfold tables_1; exact List.mem_append_right _ (List.mem_append_right _ (List.mem_append_right _ (List.mem_append_right _ (List.mem_append_left _ h))))), hg⟩
theorem lwt6 {w : Cond} {i : Nat} (h : tables_1_6[i]? = some w) (hg : goodWord w = true) : w ∈ lwg := List.mem_filter.mpr ⟨List.mem_append_right _ (have h := List.mem_of_getElem? h; by unfold tables_1; exact List.mem_append_right _ (List.mem_append_right _ (List.mem_append_right _ (List.mem_append_right _ (List.mem_append_right _ (List.mem_append_left _ h)))))), hg⟩
theorem lwt7 {w : Cond} {i : Nat} (h : tables_1_7[i]? = some w) (hg : goodWord w = true) : w ∈ lwg := List.mem_filter.mpr ⟨List.mem_append_right _ (have h := List.mem_of_getElem? h; by unfold tables_1; exact List.mem_append_right _ (List.mem_append_right _ (List.mem_append_right _ (List.mem_append_right _ (List.mem_append_right _ (List.mem_append_right _ (List.mem_append_left _ h))))))), hg⟩
theorem lwt8 {w : Cond} {i : Nat} (h : tables_1_8[i]? = some w) (hg : goodWord w = true) : w ∈ lwg := List.mem_filter.mpr ⟨List.mem_append_right _ (have h := List.mem_of_getElem? h; by unfold tables_1; exact List.mem_append_right _ (List.mem_append_right _ (List.mem_append_right _ (List.mem_append_right _ (List.mem_append_right _ (List.mem_append_right _ (List.mem_append_right _ (h)))))))), hg⟩
/-! WORDS: links, fields, callees, out of the tables, by their places -/
theorem w577 : Cond.methodLink RX11 109 yX8_put ∈ lwg := lwt2 (i := 228) (by decide +kernel) (by decide +kernel)
theorem w585 : Cond.methodLink RX11 113 yX8_read ∈ lwg := lwt2 (i := 236) (by decide +kernel) (by decide +kernel)
theorem w589 : Cond.methodLink RX8 46 yX0_clear ∈ lwg := lwt3 (i := 0) (by decide +kernel) (by decide +kernel)
theorem w593 : Cond.methodLink RX8 51 yX8_next ∈ lwg := lwt3 (i := 4) (by decide +kernel) (by decide +kernel)
theorem w597 : Cond.methodLink RX8 148 yX8_sign ∈ lwg := lwt3 (i := 8) (by decide +kernel) (by decide +kernel)
theorem w601 : Cond.methodLink RX8 152 yX8_isBlank ∈ lwg := lwt3 (i := 12) (by decide +kernel) (by decide +kernel)
theorem w604 : Cond.methodLink RX8 155 yX8_isLetter ∈ lwg := lwt3 (i := 15) (by decide +kernel) (by decide +kernel)
theorem w607 : Cond.methodLink RX8 158 yX8_readWord ∈ lwg := lwt3 (i := 18) (by decide +kernel) (by decide +kernel)
theorem w611 : Cond.fieldLink RX8 167 RX8 "LINE_WORDS" "[I" ∈ lwg := lwt3 (i := 22) (by decide +kernel) (by decide +kernel)
theorem w613 : Cond.methodLink RX8 161 yX8_isDigit ∈ lwg := lwt3 (i := 24) (by decide +kernel) (by decide +kernel)
theorem w616 : Cond.methodLink RX8 164 yX8_readNumber ∈ lwg := lwt3 (i := 27) (by decide +kernel) (by decide +kernel)
theorem w620 : Cond.constant RX8 170 (Int32.ofInt 1000000) ∈ lwg := lwt3 (i := 31) (by decide +kernel) (by decide +kernel)
theorem w621 : Cond.methodLink RX8 54 yX8_readLine ∈ lwg := lwt3 (i := 32) (by decide +kernel) (by decide +kernel)
theorem w625 : Cond.methodLink RX8 62 yX8_fail ∈ lwg := lwt3 (i := 36) (by decide +kernel) (by decide +kernel)
theorem w629 : Cond.methodLink RX8 69 yX8_readMember ∈ lwg := lwt3 (i := 40) (by decide +kernel) (by decide +kernel)
theorem w633 : Cond.methodLink RX8 58 yX8_expect ∈ lwg := lwt3 (i := 44) (by decide +kernel) (by decide +kernel)
theorem w637 : Cond.methodLink RX8 65 yX0_find ∈ lwg := lwt3 (i := 48) (by decide +kernel) (by decide +kernel)
theorem w641 : Cond.methodLink RX8 89 yX8_expectNumber ∈ lwg := lwt3 (i := 52) (by decide +kernel) (by decide +kernel)
theorem w645 : Cond.methodLink RX8 72 yX8_readOwns ∈ lwg := lwt3 (i := 56) (by decide +kernel) (by decide +kernel)
theorem w649 : Cond.methodLink RX8 108 yX8_expectMember ∈ lwg := lwt3 (i := 60) (by decide +kernel) (by decide +kernel)
theorem w653 : Cond.methodLink RX8 111 yX7_add ∈ lwg := lwt3 (i := 64) (by decide +kernel) (by decide +kernel)
theorem w657 : Cond.methodLink RX8 75 yX8_readPeriod ∈ lwg := lwt3 (i := 68) (by decide +kernel) (by decide +kernel)
theorem w661 : Cond.methodLink RX8 127 yX0_overlaps ∈ lwg := lwt3 (i := 72) (by decide +kernel) (by decide +kernel)
theorem w665 : Cond.constant RX8 131 (Int32.ofInt (-99999)) ∈ lwg := lwt3 (i := 76) (by decide +kernel) (by decide +kernel)
theorem w666 : Cond.constant RX8 132 (Int32.ofInt 99999) ∈ lwg := lwt3 (i := 77) (by decide +kernel) (by decide +kernel)
theorem w667 : Cond.methodLink RX8 78 yX8_readSetting ∈ lwg := lwt3 (i := 78) (by decide +kernel) (by decide +kernel)
theorem w671 : Cond.methodLink RX11 117 yX5_clear ∈ lwg := lwt3 (i := 82) (by decide +kernel) (by decide +kernel)
theorem w675 : Cond.methodLink RX11 120 yX2_clear ∈ lwg := lwt3 (i := 86) (by decide +kernel) (by decide +kernel)
theorem w679 : Cond.methodLink RX11 124 yX11_forgetNet ∈ lwg := lwt3 (i := 90) (by decide +kernel) (by decide +kernel)
theorem w691 : Cond.methodLink RX11 136 yX0_find ∈ lwg := lwt3 (i := 102) (by decide +kernel) (by decide +kernel)
theorem w696 : Cond.methodLink RX11 165 yX0_hasPeriod ∈ lwg := lwt3 (i := 107) (by decide +kernel) (by decide +kernel)
theorem w700 : Cond.constant RX11 168 (Int32.ofInt (-999999)) ∈ lwg := lwt3 (i := 111) (by decide +kernel) (by decide +kernel)
theorem w701 : Cond.methodLink RX11 181 yX11_openOf ∈ lwg := lwt3 (i := 112) (by decide +kernel) (by decide +kernel)
theorem w705 : Cond.methodLink RX11 477 Lib.Math.abs.name ∈ lwg := lwt3 (i := 116) (by decide +kernel) (by decide +kernel)
theorem w708 : Cond.methodLink RX11 185 yX5_takenOf ∈ lwg := lwt3 (i := 119) (by decide +kernel) (by decide +kernel)
theorem w716 : Cond.methodLink RX11 188 yX11_isPair ∈ lwg := lwt3 (i := 127) (by decide +kernel) (by decide +kernel)
theorem w720 : Cond.methodLink RX11 202 yX11_areMembers ∈ lwg := lwt3 (i := 131) (by decide +kernel) (by decide +kernel)
theorem w724 : Cond.methodLink RX11 140 yX0_hasMember ∈ lwg := lwt3 (i := 135) (by decide +kernel) (by decide +kernel)
theorem w728 : Cond.methodLink RX11 192 yX11_isDay ∈ lwg := lwt3 (i := 139) (by decide +kernel) (by decide +kernel)
theorem w731 : Cond.methodLink RX11 195 yX10_load ∈ lwg := lwt3 (i := 142) (by decide +kernel) (by decide +kernel)
theorem w735 : Cond.methodLink RX10 38 yX10_loadPercents ∈ lwg := lwt3 (i := 146) (by decide +kernel) (by decide +kernel)
theorem w739 : Cond.methodLink RX10 42 yX10_loadParts ∈ lwg := lwt3 (i := 150) (by decide +kernel) (by decide +kernel)
theorem w743 : Cond.constantFloat RX10 59 1120403456 ∈ lwg := lwt3 (i := 154) (by decide +kernel) (by decide +kernel)
theorem w748 : Cond.methodLink RX11 209 yX11_bitsOf ∈ lwg := lwt3 (i := 159) (by decide +kernel) (by decide +kernel)
theorem w751 : Cond.constantFloat RX11 480 1258291200 ∈ lwg := lwt3 (i := 162) (by decide +kernel) (by decide +kernel)
theorem w756 : Cond.constantDouble RX11 213 4666723172467343360 ∈ lwg := lwt3 (i := 167) (by decide +kernel) (by decide +kernel)
theorem w757 : Cond.constantDouble RX11 215 4602678819172646912 ∈ lwg := lwt3 (i := 168) (by decide +kernel) (by decide +kernel)
theorem w762 : Cond.methodLink RX11 220 yX10_judge ∈ lwg := lwt3 (i := 173) (by decide +kernel) (by decide +kernel)
theorem w770 : Cond.methodLink RX11 226 yX10_relativesOf ∈ lwg := lwt3 (i := 181) (by decide +kernel) (by decide +kernel)
theorem w778 : Cond.methodLink RX11 229 yX10_countGroups ∈ lwg := lwt3 (i := 189) (by decide +kernel) (by decide +kernel)
theorem w782 : Cond.methodLink RX10 60 yX10_groupOf ∈ lwg := lwt3 (i := 193) (by decide +kernel) (by decide +kernel)
theorem w786 : Cond.methodLink RX10 64 yX10_relativesOf ∈ lwg := lwt3 (i := 197) (by decide +kernel) (by decide +kernel)
theorem w791 : Cond.methodLink RX11 233 yX11_refreshNet ∈ lwg := lwt3 (i := 202) (by decide +kernel) (by decide +kernel)
theorem w795 : Cond.methodLink RX11 424 yX4_fill ∈ lwg := lwt3 (i := 206) (by decide +kernel) (by decide +kernel)
theorem w799 : Cond.methodLink RX4 36 yX4_addStart ∈ lwg := lwt3 (i := 210) (by decide +kernel) (by decide +kernel)
theorem w803 : Cond.methodLink RX4 40 yX10_load ∈ lwg := lwt3 (i := 214) (by decide +kernel) (by decide +kernel)
theorem w804 : Cond.methodLink RX4 46 yX10_judge ∈ lwg := lwt3 (i := 215) (by decide +kernel) (by decide +kernel)
theorem w805 : Cond.methodLink RX4 52 yX10_relativesOf ∈ lwg := lwt3 (i := 216) (by decide +kernel) (by decide +kernel)
theorem w806 : Cond.methodLink RX11 440 yX6_fill ∈ lwg := lwt3 (i := 217) (by decide +kernel) (by decide +kernel)
theorem w810 : Cond.methodLink RX6 27 yX6_boundOf ∈ lwg := lwt3 (i := 221) (by decide +kernel) (by decide +kernel)
theorem w813 : Cond.methodLink RX6 35 yX0_isOneMembers ∈ lwg := lwt3 (i := 224) (by decide +kernel) (by decide +kernel)
theorem w817 : Cond.methodLink RX6 42 Lib.Math.min.name ∈ lwg := lwt3 (i := 228) (by decide +kernel) (by decide +kernel)
theorem w820 : Cond.methodLink RX6 47 Lib.Math.max.name ∈ lwg := lwt3 (i := 231) (by decide +kernel) (by decide +kernel)
theorem w823 : Cond.methodLink RX6 53 yX4_daysTogether ∈ lwg := lwt3 (i := 234) (by decide +kernel) (by decide +kernel)
theorem w827 : Cond.methodLink RX4 56 Lib.Math.max.name ∈ lwg := lwt3 (i := 238) (by decide +kernel) (by decide +kernel)
theorem w828 : Cond.methodLink RX4 62 yX4_endOf ∈ lwg := lwt3 (i := 239) (by decide +kernel) (by decide +kernel)
theorem w832 : Cond.methodLink RX4 65 Lib.Math.min.name ∈ lwg := lwt4 (i := 3) (by decide +kernel) (by decide +kernel)
theorem w833 : Cond.methodLink RX4 68 yX4_isTogether ∈ lwg := lwt4 (i := 4) (by decide +kernel) (by decide +kernel)
theorem w837 : Cond.methodLink RX6 31 yX0_priceOf ∈ lwg := lwt4 (i := 8) (by decide +kernel) (by decide +kernel)
theorem w841 : Cond.methodLink RX0 66 yX0_isOneMembers ∈ lwg := lwt4 (i := 12) (by decide +kernel) (by decide +kernel)
theorem w842 : Cond.methodLink RX0 70 Lib.Math.abs.name ∈ lwg := lwt4 (i := 13) (by decide +kernel) (by decide +kernel)
theorem w843 : Cond.methodLink RX11 236 yX4_firstDay ∈ lwg := lwt4 (i := 14) (by decide +kernel) (by decide +kernel)
theorem w847 : Cond.methodLink RX11 240 yX4_lastDay ∈ lwg := lwt4 (i := 18) (by decide +kernel) (by decide +kernel)
theorem w851 : Cond.methodLink RX11 243 yX4_daysTogether ∈ lwg := lwt4 (i := 22) (by decide +kernel) (by decide +kernel)
theorem w856 : Cond.methodLink RX11 247 yX10_stepsBetween ∈ lwg := lwt4 (i := 27) (by decide +kernel) (by decide +kernel)
theorem w864 : Cond.methodLink RX11 258 yX7_add ∈ lwg := lwt4 (i := 35) (by decide +kernel) (by decide +kernel)
theorem w865 : Cond.methodLink RX11 262 yX11_claimsExceedBounds ∈ lwg := lwt4 (i := 36) (by decide +kernel) (by decide +kernel)
theorem w869 : Cond.methodLink RX11 280 yX5_takenOn ∈ lwg := lwt4 (i := 40) (by decide +kernel) (by decide +kernel)
theorem w873 : Cond.methodLink RX11 266 yX7_dropLast ∈ lwg := lwt4 (i := 44) (by decide +kernel) (by decide +kernel)
theorem w877 : Cond.methodLink RX7 28 Lib.Math.max.name ∈ lwg := lwt4 (i := 48) (by decide +kernel) (by decide +kernel)
theorem w878 : Cond.methodLink RX11 269 yX2_push ∈ lwg := lwt4 (i := 49) (by decide +kernel) (by decide +kernel)
theorem w882 : Cond.methodLink RX2 19 arraycopyName ∈ lwg := lwt4 (i := 53) (by decide +kernel) (by decide +kernel)
theorem w889 : Cond.methodLink RX11 286 Lib.Math.max.name ∈ lwg := lwt4 (i := 60) (by decide +kernel) (by decide +kernel)
theorem w890 : Cond.methodLink RX11 291 Lib.Math.min.name ∈ lwg := lwt4 (i := 61) (by decide +kernel) (by decide +kernel)
theorem w895 : Cond.methodLink RX11 294 yX11_isLink ∈ lwg := lwt4 (i := 66) (by decide +kernel) (by decide +kernel)
theorem w911 : Cond.methodLink RX11 300 yX11_enter ∈ lwg := lwt4 (i := 82) (by decide +kernel) (by decide +kernel)
theorem w915 : Cond.constant RX11 304 (Int32.ofInt 99999) ∈ lwg := lwt4 (i := 86) (by decide +kernel) (by decide +kernel)
theorem w916 : Cond.methodLink RX11 305 yX5_insert ∈ lwg := lwt4 (i := 87) (by decide +kernel) (by decide +kernel)
theorem w924 : Cond.methodLink RX11 308 yX5_has ∈ lwg := lwt4 (i := 95) (by decide +kernel) (by decide +kernel)
theorem w928 : Cond.methodLink RX11 314 yX5_remove ∈ lwg := lwt4 (i := 99) (by decide +kernel) (by decide +kernel)
theorem w932 : Cond.methodLink RX5 31 yX5_has ∈ lwg := lwt4 (i := 103) (by decide +kernel) (by decide +kernel)
theorem w937 : Cond.methodLink RX11 317 yX0_paidFor ∈ lwg := lwt4 (i := 108) (by decide +kernel) (by decide +kernel)
theorem w945 : Cond.methodLink RX11 321 yX11_refreshFlow ∈ lwg := lwt4 (i := 116) (by decide +kernel) (by decide +kernel)
theorem w949 : Cond.methodLink RX11 405 yX1_load ∈ lwg := lwt4 (i := 120) (by decide +kernel) (by decide +kernel)
theorem w953 : Cond.methodLink RX1 58 yX0_signOf ∈ lwg := lwt4 (i := 124) (by decide +kernel) (by decide +kernel)
theorem w957 : Cond.methodLink RX1 65 Lib.Math.abs.name ∈ lwg := lwt4 (i := 128) (by decide +kernel) (by decide +kernel)
theorem w958 : Cond.methodLink RX1 75 Lib.Math.max.name ∈ lwg := lwt4 (i := 129) (by decide +kernel) (by decide +kernel)
theorem w959 : Cond.methodLink RX11 408 yX1_run ∈ lwg := lwt4 (i := 130) (by decide +kernel) (by decide +kernel)
theorem w963 : Cond.constant RX1 94 (Int32.ofInt 1000000) ∈ lwg := lwt4 (i := 134) (by decide +kernel) (by decide +kernel)
theorem w964 : Cond.methodLink RX1 95 yX1_measure ∈ lwg := lwt4 (i := 135) (by decide +kernel) (by decide +kernel)
theorem w968 : Cond.methodLink RX1 105 yX1_improveAll ∈ lwg := lwt4 (i := 139) (by decide +kernel) (by decide +kernel)
theorem w972 : Cond.methodLink RX1 108 yX1_improve ∈ lwg := lwt4 (i := 143) (by decide +kernel) (by decide +kernel)
theorem w976 : Cond.methodLink RX1 112 yX1_isBetter ∈ lwg := lwt4 (i := 147) (by decide +kernel) (by decide +kernel)
theorem w980 : Cond.methodLink RX1 98 yX1_findRoute ∈ lwg := lwt4 (i := 151) (by decide +kernel) (by decide +kernel)
theorem w984 : Cond.methodLink RX1 115 yX1_followerOf ∈ lwg := lwt4 (i := 155) (by decide +kernel) (by decide +kernel)
theorem w988 : Cond.methodLink RX1 118 yX1_passable ∈ lwg := lwt4 (i := 159) (by decide +kernel) (by decide +kernel)
theorem w992 : Cond.methodLink RX1 102 yX1_takeRoute ∈ lwg := lwt4 (i := 163) (by decide +kernel) (by decide +kernel)
theorem w996 : Cond.methodLink RX1 121 Lib.Math.min.name ∈ lwg := lwt4 (i := 167) (by decide +kernel) (by decide +kernel)
theorem w997 : Cond.methodLink RX1 124 arraycopyName ∈ lwg := lwt4 (i := 168) (by decide +kernel) (by decide +kernel)
theorem w1002 : Cond.constant RX11 330 (Int32.ofInt (-99999)) ∈ lwg := lwt4 (i := 173) (by decide +kernel) (by decide +kernel)
theorem w1003 : Cond.methodLink RX11 331 yX5_touches ∈ lwg := lwt4 (i := 174) (by decide +kernel) (by decide +kernel)
theorem w1007 : Cond.methodLink RX5 35 yX5_takenOf ∈ lwg := lwt4 (i := 178) (by decide +kernel) (by decide +kernel)
theorem w1016 : Cond.constantLong RX11 334 (Int64.ofInt (-1)) ∈ lwg := lwt4 (i := 187) (by decide +kernel) (by decide +kernel)
theorem w1017 : Cond.methodLink RX11 339 yX1_totalPrice ∈ lwg := lwt4 (i := 188) (by decide +kernel) (by decide +kernel)
theorem w1021 : Cond.methodLink RX11 346 yX1_usedLinks ∈ lwg := lwt4 (i := 192) (by decide +kernel) (by decide +kernel)
theorem w1029 : Cond.methodLink RX11 349 yX1_reachedBits ∈ lwg := lwt4 (i := 200) (by decide +kernel) (by decide +kernel)
theorem w1033 : Cond.methodLink RX1 130 yX1_neighboursOf ∈ lwg := lwt4 (i := 204) (by decide +kernel) (by decide +kernel)
theorem w1053 : Cond.methodLink RX11 361 yX11_claimsOn ∈ lwg := lwt4 (i := 224) (by decide +kernel) (by decide +kernel)
theorem w1057 : Cond.methodLink RX11 368 yX0_isOneMembers ∈ lwg := lwt4 (i := 228) (by decide +kernel) (by decide +kernel)
theorem w1058 : Cond.methodLink RX11 365 yX11_reliefOn ∈ lwg := lwt4 (i := 229) (by decide +kernel) (by decide +kernel)
theorem w1066 : Cond.methodLink RX11 371 yX11_paidForRelief ∈ lwg := lwt4 (i := 237) (by decide +kernel) (by decide +kernel)
theorem w1070 : Cond.methodLink RX11 401 yX0_isBetween ∈ lwg := lwt5 (i := 1) (by decide +kernel) (by decide +kernel)
theorem w1074 : Cond.methodLink RX11 374 yX11_paidForClaims ∈ lwg := lwt5 (i := 5) (by decide +kernel) (by decide +kernel)
theorem w1082 : Cond.constant RX11 377 (Int32.ofInt (-9999999)) ∈ lwg := lwt5 (i := 13) (by decide +kernel) (by decide +kernel)
theorem w1083 : Cond.methodLink RX11 378 yX11_paidInAll ∈ lwg := lwt5 (i := 14) (by decide +kernel) (by decide +kernel)
theorem w1095 : Cond.methodLink RX11 381 yX11_settle ∈ lwg := lwt5 (i := 26) (by decide +kernel) (by decide +kernel)
theorem w1099 : Cond.methodLink RX11 398 yX9_run ∈ lwg := lwt5 (i := 30) (by decide +kernel) (by decide +kernel)
theorem w1103 : Cond.methodLink RX9 28 Lib.Math.min.name ∈ lwg := lwt5 (i := 34) (by decide +kernel) (by decide +kernel)
theorem w1104 : Cond.methodLink RX9 34 yX9_pay ∈ lwg := lwt5 (i := 35) (by decide +kernel) (by decide +kernel)
theorem w1120 : Cond.methodLink RX11 157 yX0_periodsOf ∈ lwg := lwt5 (i := 51) (by decide +kernel) (by decide +kernel)
theorem w1128 : Cond.methodLink RX11 410 yX11_gainByRoom ∈ lwg := lwt5 (i := 59) (by decide +kernel) (by decide +kernel)
theorem w1140 : Cond.methodLink RX11 416 yX11_reliefWithoutClaims ∈ lwg := lwt5 (i := 71) (by decide +kernel) (by decide +kernel)
theorem w1148 : Cond.methodLink RX11 420 yX11_reliefByGate ∈ lwg := lwt5 (i := 79) (by decide +kernel) (by decide +kernel)
theorem w1156 : Cond.constant RX11 423 (Int32.ofInt 9999999) ∈ lwg := lwt5 (i := 87) (by decide +kernel) (by decide +kernel)
theorem w1161 : Cond.methodLink RX11 431 yX0_overlaps ∈ lwg := lwt5 (i := 92) (by decide +kernel) (by decide +kernel)
theorem w1162 : Cond.methodLink RX11 434 arraycopyName ∈ lwg := lwt5 (i := 93) (by decide +kernel) (by decide +kernel)
theorem w1167 : Cond.methodLink RX11 443 yX5_copy ∈ lwg := lwt5 (i := 98) (by decide +kernel) (by decide +kernel)
theorem w1171 : Cond.methodLink RX5 25 arraycopyName ∈ lwg := lwt5 (i := 102) (by decide +kernel) (by decide +kernel)
theorem w1172 : Cond.methodLink RX11 450 yX11_nextNumber ∈ lwg := lwt5 (i := 103) (by decide +kernel) (by decide +kernel)
theorem w1175 : Cond.constant RX11 456 (Int32.ofInt 1103515245) ∈ lwg := lwt5 (i := 106) (by decide +kernel) (by decide +kernel)
theorem w1176 : Cond.constant RX11 457 (Int32.ofInt 2147483647) ∈ lwg := lwt5 (i := 107) (by decide +kernel) (by decide +kernel)
theorem w1177 : Cond.methodLink RX11 453 yX11_drawn ∈ lwg := lwt5 (i := 108) (by decide +kernel) (by decide +kernel)
theorem w1184 : Cond.methodLink RX11 459 yX2_pop ∈ lwg := lwt5 (i := 115) (by decide +kernel) (by decide +kernel)
theorem w1188 : Cond.methodLink RX2 25 Lib.Math.max.name ∈ lwg := lwt5 (i := 119) (by decide +kernel) (by decide +kernel)
theorem w1193 : Cond.methodLink RX11 467 yX7_copy ∈ lwg := lwt5 (i := 124) (by decide +kernel) (by decide +kernel)
theorem w1197 : Cond.methodLink RX7 34 arraycopyName ∈ lwg := lwt5 (i := 128) (by decide +kernel) (by decide +kernel)
theorem w1206 : Cond.methodLink RX11 474 yX0_countSigned ∈ lwg := lwt5 (i := 137) (by decide +kernel) (by decide +kernel)
theorem w1210 : Cond.methodLink RX0 62 yX0_signOf ∈ lwg := lwt5 (i := 141) (by decide +kernel) (by decide +kernel)
theorem w1308 : Cond.methodLink RX12 75 yX12_plain ∈ lwg := lwt5 (i := 239) (by decide +kernel) (by decide +kernel)
theorem w1312 : Cond.methodLink RX12 78 yX12_keepText ∈ lwg := lwt6 (i := 3) (by decide +kernel) (by decide +kernel)
theorem w1316 : Cond.methodLink RX12 141 yX12_copies ∈ lwg := lwt6 (i := 7) (by decide +kernel) (by decide +kernel)
theorem w1319 : Cond.methodLink RX12 158 yX12_lay ∈ lwg := lwt6 (i := 10) (by decide +kernel) (by decide +kernel)
theorem w1480 : Cond.methodLink RX12 172 yX12_token ∈ lwg := lwt6 (i := 171) (by decide +kernel) (by decide +kernel)
theorem w1484 : Cond.methodLink RX12 102 yX12_isSmall ∈ lwg := lwt6 (i := 175) (by decide +kernel) (by decide +kernel)
theorem w1488 : Cond.methodLink RX12 106 yX12_wordAt ∈ lwg := lwt6 (i := 179) (by decide +kernel) (by decide +kernel)
theorem w1492 : Cond.methodLink RX12 113 yX12_packed ∈ lwg := lwt6 (i := 183) (by decide +kernel) (by decide +kernel)
theorem w1496 : Cond.methodLink RX12 116 yX12_isDigit ∈ lwg := lwt6 (i := 187) (by decide +kernel) (by decide +kernel)
theorem w1500 : Cond.constant RX12 119 (Int32.ofInt 99999) ∈ lwg := lwt6 (i := 191) (by decide +kernel) (by decide +kernel)
theorem w1501 : Cond.methodLink RX12 203 yX12_lineRead ∈ lwg := lwt6 (i := 192) (by decide +kernel) (by decide +kernel)
theorem w1505 : Cond.methodLink RX12 162 yX12_wrong ∈ lwg := lwt6 (i := 196) (by decide +kernel) (by decide +kernel)
theorem w1509 : Cond.methodLink RX12 191 yX12_memberLine ∈ lwg := lwt6 (i := 200) (by decide +kernel) (by decide +kernel)
theorem w1513 : Cond.methodLink RX12 179 yX12_nameAt ∈ lwg := lwt6 (i := 204) (by decide +kernel) (by decide +kernel)
theorem w1517 : Cond.methodLink RX12 183 yX12_number ∈ lwg := lwt6 (i := 208) (by decide +kernel) (by decide +kernel)
theorem w1521 : Cond.methodLink RX12 175 yX12_signed ∈ lwg := lwt6 (i := 212) (by decide +kernel) (by decide +kernel)
theorem w1525 : Cond.methodLink RX12 165 yX12_isIn ∈ lwg := lwt6 (i := 216) (by decide +kernel) (by decide +kernel)
theorem w1528 : Cond.methodLink RX12 194 yX12_ownsLine ∈ lwg := lwt6 (i := 219) (by decide +kernel) (by decide +kernel)
theorem w1532 : Cond.methodLink RX12 186 yX12_memberRead ∈ lwg := lwt6 (i := 223) (by decide +kernel) (by decide +kernel)
theorem w1536 : Cond.methodLink RX12 197 yX12_periodLine ∈ lwg := lwt6 (i := 227) (by decide +kernel) (by decide +kernel)
theorem w1540 : Cond.constant RX12 190 (Int32.ofInt (-99999)) ∈ lwg := lwt6 (i := 231) (by decide +kernel) (by decide +kernel)
theorem w1541 : Cond.methodLink RX12 200 yX12_wordLine ∈ lwg := lwt6 (i := 232) (by decide +kernel) (by decide +kernel)
theorem w1557 : Cond.methodLink RX12 206 yX12_copyBank ∈ lwg := lwt7 (i := 8) (by decide +kernel) (by decide +kernel)
theorem w1565 : Cond.methodLink RX12 209 yX12_of ∈ lwg := lwt7 (i := 16) (by decide +kernel) (by decide +kernel)
theorem w1577 : Cond.methodLink RX12 267 yX12_isLink ∈ lwg := lwt7 (i := 28) (by decide +kernel) (by decide +kernel)
theorem w1581 : Cond.methodLink RX12 246 yX12_isPeriod ∈ lwg := lwt7 (i := 32) (by decide +kernel) (by decide +kernel)
theorem w1585 : Cond.methodLink RX12 249 yX12_result ∈ lwg := lwt7 (i := 36) (by decide +kernel) (by decide +kernel)
theorem w1589 : Cond.methodLink RX12 252 yX12_isCarry ∈ lwg := lwt7 (i := 40) (by decide +kernel) (by decide +kernel)
theorem w1593 : Cond.methodLink RX12 239 yX12_memberOf ∈ lwg := lwt7 (i := 44) (by decide +kernel) (by decide +kernel)
theorem w1597 : Cond.methodLink RX12 233 yX12_firstDay ∈ lwg := lwt7 (i := 48) (by decide +kernel) (by decide +kernel)
theorem w1601 : Cond.methodLink RX12 236 yX12_lastDay ∈ lwg := lwt7 (i := 52) (by decide +kernel) (by decide +kernel)
theorem w1605 : Cond.methodLink RX12 261 yX12_laysStretches ∈ lwg := lwt7 (i := 56) (by decide +kernel) (by decide +kernel)
theorem w1609 : Cond.methodLink RX12 223 yX12_laysShares ∈ lwg := lwt7 (i := 60) (by decide +kernel) (by decide +kernel)
theorem w1613 : Cond.methodLink RX12 213 yX12_percentOf ∈ lwg := lwt7 (i := 64) (by decide +kernel) (by decide +kernel)
theorem w1617 : Cond.constantFloat RX12 216 1120403456 ∈ lwg := lwt7 (i := 68) (by decide +kernel) (by decide +kernel)
theorem w1618 : Cond.methodLink RX12 227 yX12_areRelated ∈ lwg := lwt7 (i := 69) (by decide +kernel) (by decide +kernel)
theorem w1622 : Cond.methodLink RX12 217 yX12_isControl ∈ lwg := lwt7 (i := 73) (by decide +kernel) (by decide +kernel)
theorem w1626 : Cond.methodLink RX12 306 yX12_canClaim ∈ lwg := lwt7 (i := 77) (by decide +kernel) (by decide +kernel)
theorem w1630 : Cond.methodLink RX12 270 yX12_boundOf ∈ lwg := lwt7 (i := 81) (by decide +kernel) (by decide +kernel)
theorem w1634 : Cond.methodLink RX12 255 yX12_sharedOf ∈ lwg := lwt7 (i := 85) (by decide +kernel) (by decide +kernel)
theorem w1638 : Cond.methodLink RX12 242 yX12_daysOf ∈ lwg := lwt7 (i := 89) (by decide +kernel) (by decide +kernel)
theorem w1642 : Cond.methodLink RX12 273 yX12_claimedBy ∈ lwg := lwt7 (i := 93) (by decide +kernel) (by decide +kernel)
theorem w1646 : Cond.methodLink RX12 264 yX12_openOf ∈ lwg := lwt7 (i := 97) (by decide +kernel) (by decide +kernel)
theorem w1650 : Cond.methodLink RX12 258 yX12_claimedOf ∈ lwg := lwt7 (i := 101) (by decide +kernel) (by decide +kernel)
theorem w1654 : Cond.methodLink RX12 309 yX12_canUndo ∈ lwg := lwt7 (i := 105) (by decide +kernel) (by decide +kernel)
theorem w1658 : Cond.methodLink RX12 312 yX12_claims ∈ lwg := lwt7 (i := 109) (by decide +kernel) (by decide +kernel)
theorem w1666 : Cond.methodLink RX12 316 yX12_isClaim ∈ lwg := lwt7 (i := 117) (by decide +kernel) (by decide +kernel)
theorem w1674 : Cond.methodLink RX12 321 yX12_paid ∈ lwg := lwt7 (i := 125) (by decide +kernel) (by decide +kernel)
theorem w1678 : Cond.constantLong RX12 319 (Int64.ofInt 100) ∈ lwg := lwt7 (i := 129) (by decide +kernel) (by decide +kernel)
theorem w1683 : Cond.methodLink RX12 324 yX12_solves ∈ lwg := lwt7 (i := 134) (by decide +kernel) (by decide +kernel)
theorem w1687 : Cond.methodLink RX12 299 yX12_laysAll ∈ lwg := lwt7 (i := 138) (by decide +kernel) (by decide +kernel)
theorem w1691 : Cond.methodLink RX12 303 yX12_relieves ∈ lwg := lwt7 (i := 142) (by decide +kernel) (by decide +kernel)
theorem w1695 : Cond.methodLink RX12 292 yX12_laysRoutes ∈ lwg := lwt7 (i := 146) (by decide +kernel) (by decide +kernel)
theorem w1699 : Cond.methodLink RX12 280 yX12_priceOf ∈ lwg := lwt7 (i := 150) (by decide +kernel) (by decide +kernel)
theorem w1703 : Cond.methodLink RX12 283 yX12_goes ∈ lwg := lwt7 (i := 154) (by decide +kernel) (by decide +kernel)
theorem w1707 : Cond.methodLink RX12 276 yX12_isBetter ∈ lwg := lwt7 (i := 158) (by decide +kernel) (by decide +kernel)
theorem w1711 : Cond.methodLink RX12 295 yX12_bestEnd ∈ lwg := lwt7 (i := 162) (by decide +kernel) (by decide +kernel)
theorem w1715 : Cond.methodLink RX12 286 yX12_isAhead ∈ lwg := lwt7 (i := 166) (by decide +kernel) (by decide +kernel)
theorem w1727 : Cond.methodLink RX12 327 yX12_isMember ∈ lwg := lwt7 (i := 178) (by decide +kernel) (by decide +kernel)
theorem w1731 : Cond.methodLink RX12 330 yX12_isDay ∈ lwg := lwt7 (i := 182) (by decide +kernel) (by decide +kernel)
theorem w1734 : Cond.methodLink RX12 333 yX12_owned ∈ lwg := lwt7 (i := 185) (by decide +kernel) (by decide +kernel)
theorem w1742 : Cond.methodLink RX12 337 yX12_fails ∈ lwg := lwt7 (i := 193) (by decide +kernel) (by decide +kernel)
theorem w1750 : Cond.constant RX12 340 (Int32.ofInt (-999999)) ∈ lwg := lwt7 (i := 201) (by decide +kernel) (by decide +kernel)
theorem w1755 : Cond.methodLink RX12 341 yX12_areMembers ∈ lwg := lwt7 (i := 206) (by decide +kernel) (by decide +kernel)
theorem w1763 : Cond.methodLink RX12 344 yJxf58ca_floatToIntBits_5c35a ∈ lwg := lwt7 (i := 214) (by decide +kernel) (by decide +kernel)
theorem w1777 : Cond.constantDouble RX12 350 4666723172467343360 ∈ lwg := lwt7 (i := 228) (by decide +kernel) (by decide +kernel)
theorem w1778 : Cond.constantDouble RX12 352 4602678819172646912 ∈ lwg := lwt7 (i := 229) (by decide +kernel) (by decide +kernel)
theorem w1787 : Cond.methodLink RX12 354 yX12_relatedTo ∈ lwg := lwt7 (i := 238) (by decide +kernel) (by decide +kernel)
theorem w1819 : Cond.constantLong RX12 357 (Int64.ofInt (-1)) ∈ lwg := lwt8 (i := 30) (by decide +kernel) (by decide +kernel)
theorem w1836 : Cond.constant RX12 359 (Int32.ofInt (-9999999)) ∈ lwg := lwt8 (i := 47) (by decide +kernel) (by decide +kernel)
theorem w1837 : Cond.methodLink RX12 360 yX12_laysBalances ∈ lwg := lwt8 (i := 48) (by decide +kernel) (by decide +kernel)
theorem w1849 : Cond.methodLink RX12 372 yX12_settlesOne ∈ lwg := lwt8 (i := 60) (by decide +kernel) (by decide +kernel)
theorem w1877 : Cond.methodLink RX12 375 yX12_byGateOf ∈ lwg := lwt8 (i := 88) (by decide +kernel) (by decide +kernel)
theorem w1901 : Cond.constant RX12 378 (Int32.ofInt 9999999) ∈ lwg := lwt8 (i := 112) (by decide +kernel) (by decide +kernel)
theorem w1918 : Cond.methodLink RX12 391 yX12_draw ∈ lwg := lwt8 (i := 129) (by decide +kernel) (by decide +kernel)
theorem w1922 : Cond.constantLong RX12 383 (Int64.ofInt 1103515245) ∈ lwg := lwt8 (i := 133) (by decide +kernel) (by decide +kernel)
theorem w1923 : Cond.constantLong RX12 385 (Int64.ofInt 12345) ∈ lwg := lwt8 (i := 134) (by decide +kernel) (by decide +kernel)
theorem w1924 : Cond.constantLong RX12 387 (Int64.ofInt 2147483647) ∈ lwg := lwt8 (i := 135) (by decide +kernel) (by decide +kernel)
theorem w1925 : Cond.constantLong RX12 389 (Int64.ofInt 65536) ∈ lwg := lwt8 (i := 136) (by decide +kernel) (by decide +kernel)
theorem inw0 : ∀ w ∈ u_ws RX0 TX0 14, w ∈ lwg := by
  intro w hw
  obtain ⟨k, hk, rfl⟩ := List.mem_map.mp hw
  have hk := List.mem_range.mp hk
  have hg : goodWord (u_lay RX0 TX0 k) = true := by unfold u_lay; split <;> rfl
  match k, hk, hg with
  | 0, _, hg => exact lwt1 (i := 166) (by decide +kernel) hg
  | 1, _, hg => exact lwt1 (i := 168) (by decide +kernel) hg
  | 2, _, hg => exact lwt1 (i := 170) (by decide +kernel) hg
  | 3, _, hg => exact lwt1 (i := 172) (by decide +kernel) hg
  | 4, _, hg => exact lwt1 (i := 174) (by decide +kernel) hg
  | 5, _, hg => exact lwt1 (i := 176) (by decide +kernel) hg
  | 6, _, hg => exact lwt1 (i := 178) (by decide +kernel) hg
  | 7, _, hg => exact lwt1 (i := 180) (by decide +kernel) hg
  | 8, _, hg => exact lwt1 (i := 182) (by decide +kernel) hg
  | 9, _, hg => exact lwt1 (i := 184) (by decide +kernel) hg
  | 10, _, hg => exact lwt1 (i := 186) (by decide +kernel) hg
  | 11, _, hg => exact lwt1 (i := 188) (by decide +kernel) hg
  | 12, _, hg => exact lwt1 (i := 190) (by decide +kernel) hg
  | 13, _, hg => exact lwt1 (i := 192) (by decide +kernel) hg
  | k + 14, hk, _ => exact absurd hk (by omega)
theorem inw1 : ∀ w ∈ u_ws RX1 TX1 14, w ∈ lwg := by
  intro w hw
  obtain ⟨k, hk, rfl⟩ := List.mem_map.mp hw
  have hk := List.mem_range.mp hk
  have hg : goodWord (u_lay RX1 TX1 k) = true := by unfold u_lay; split <;> rfl
  match k, hk, hg with
  | 0, _, hg => exact lwt2 (i := 113) (by decide +kernel) hg
  | 1, _, hg => exact lwt2 (i := 115) (by decide +kernel) hg
  | 2, _, hg => exact lwt2 (i := 117) (by decide +kernel) hg
  | 3, _, hg => exact lwt2 (i := 119) (by decide +kernel) hg
  | 4, _, hg => exact lwt2 (i := 121) (by decide +kernel) hg
  | 5, _, hg => exact lwt2 (i := 123) (by decide +kernel) hg
  | 6, _, hg => exact lwt2 (i := 125) (by decide +kernel) hg
  | 7, _, hg => exact lwt2 (i := 127) (by decide +kernel) hg
  | 8, _, hg => exact lwt2 (i := 129) (by decide +kernel) hg
  | 9, _, hg => exact lwt2 (i := 131) (by decide +kernel) hg
  | 10, _, hg => exact lwt2 (i := 133) (by decide +kernel) hg
  | 11, _, hg => exact lwt2 (i := 135) (by decide +kernel) hg
  | 12, _, hg => exact lwt2 (i := 137) (by decide +kernel) hg
  | 13, _, hg => exact lwt2 (i := 139) (by decide +kernel) hg
  | k + 14, hk, _ => exact absurd hk (by omega)
theorem inw2 : ∀ w ∈ u_ws RX2 TX2 2, w ∈ lwg := by
  intro w hw
  obtain ⟨k, hk, rfl⟩ := List.mem_map.mp hw
  have hk := List.mem_range.mp hk
  have hg : goodWord (u_lay RX2 TX2 k) = true := by unfold u_lay; split <;> rfl
  match k, hk, hg with
  | 0, _, hg => exact lwt1 (i := 232) (by decide +kernel) hg
  | 1, _, hg => exact lwt1 (i := 234) (by decide +kernel) hg
  | k + 2, hk, _ => exact absurd hk (by omega)
theorem inw3 : ∀ w ∈ u_ws RX3 TX3 4, w ∈ lwg := by
  intro w hw
  obtain ⟨k, hk, rfl⟩ := List.mem_map.mp hw
  have hk := List.mem_range.mp hk
  have hg : goodWord (u_lay RX3 TX3 k) = true := by unfold u_lay; split <;> rfl
  match k, hk, hg with
  | 0, _, hg => exact lwt2 (i := 15) (by decide +kernel) hg
  | 1, _, hg => exact lwt2 (i := 17) (by decide +kernel) hg
  | 2, _, hg => exact lwt2 (i := 19) (by decide +kernel) hg
  | 3, _, hg => exact lwt2 (i := 21) (by decide +kernel) hg
  | k + 4, hk, _ => exact absurd hk (by omega)
theorem inw4 : ∀ w ∈ u_ws RX4 TX4 3, w ∈ lwg := by
  intro w hw
  obtain ⟨k, hk, rfl⟩ := List.mem_map.mp hw
  have hk := List.mem_range.mp hk
  have hg : goodWord (u_lay RX4 TX4 k) = true := by unfold u_lay; split <;> rfl
  match k, hk, hg with
  | 0, _, hg => exact lwt2 (i := 62) (by decide +kernel) hg
  | 1, _, hg => exact lwt2 (i := 64) (by decide +kernel) hg
  | 2, _, hg => exact lwt2 (i := 66) (by decide +kernel) hg
  | k + 3, hk, _ => exact absurd hk (by omega)
theorem inw5 : ∀ w ∈ u_ws RX5 TX5 4, w ∈ lwg := by
  intro w hw
  obtain ⟨k, hk, rfl⟩ := List.mem_map.mp hw
  have hk := List.mem_range.mp hk
  have hg : goodWord (u_lay RX5 TX5 k) = true := by unfold u_lay; split <;> rfl
  match k, hk, hg with
  | 0, _, hg => exact lwt1 (i := 213) (by decide +kernel) hg
  | 1, _, hg => exact lwt1 (i := 215) (by decide +kernel) hg
  | 2, _, hg => exact lwt1 (i := 217) (by decide +kernel) hg
  | 3, _, hg => exact lwt1 (i := 219) (by decide +kernel) hg
  | k + 4, hk, _ => exact absurd hk (by omega)
theorem inw6 : ∀ w ∈ u_ws RX6 TX6 2, w ∈ lwg := by
  intro w hw
  obtain ⟨k, hk, rfl⟩ := List.mem_map.mp hw
  have hk := List.mem_range.mp hk
  have hg : goodWord (u_lay RX6 TX6 k) = true := by unfold u_lay; split <;> rfl
  match k, hk, hg with
  | 0, _, hg => exact lwt2 (i := 81) (by decide +kernel) hg
  | 1, _, hg => exact lwt2 (i := 83) (by decide +kernel) hg
  | k + 2, hk, _ => exact absurd hk (by omega)
theorem inw7 : ∀ w ∈ u_ws RX7 TX7 5, w ∈ lwg := by
  intro w hw
  obtain ⟨k, hk, rfl⟩ := List.mem_map.mp hw
  have hk := List.mem_range.mp hk
  have hg : goodWord (u_lay RX7 TX7 k) = true := by unfold u_lay; split <;> rfl
  match k, hk, hg with
  | 0, _, hg => exact lwt1 (i := 103) (by decide +kernel) hg
  | 1, _, hg => exact lwt1 (i := 105) (by decide +kernel) hg
  | 2, _, hg => exact lwt1 (i := 107) (by decide +kernel) hg
  | 3, _, hg => exact lwt1 (i := 109) (by decide +kernel) hg
  | 4, _, hg => exact lwt1 (i := 111) (by decide +kernel) hg
  | k + 5, hk, _ => exact absurd hk (by omega)
theorem inw8 : ∀ w ∈ u_ws RX8 TX8 11, w ∈ lwg := by
  intro w hw
  obtain ⟨k, hk, rfl⟩ := List.mem_map.mp hw
  have hk := List.mem_range.mp hk
  have hg : goodWord (u_lay RX8 TX8 k) = true := by unfold u_lay; split <;> rfl
  match k, hk, hg with
  | 0, _, hg => exact lwt1 (i := 52) (by decide +kernel) hg
  | 1, _, hg => exact lwt1 (i := 54) (by decide +kernel) hg
  | 2, _, hg => exact lwt1 (i := 56) (by decide +kernel) hg
  | 3, _, hg => exact lwt1 (i := 58) (by decide +kernel) hg
  | 4, _, hg => exact lwt1 (i := 60) (by decide +kernel) hg
  | 5, _, hg => exact lwt1 (i := 62) (by decide +kernel) hg
  | 6, _, hg => exact lwt1 (i := 64) (by decide +kernel) hg
  | 7, _, hg => exact lwt1 (i := 66) (by decide +kernel) hg
  | 8, _, hg => exact lwt1 (i := 68) (by decide +kernel) hg
  | 9, _, hg => exact lwt1 (i := 70) (by decide +kernel) hg
  | 10, _, hg => exact lwt1 (i := 72) (by decide +kernel) hg
  | k + 11, hk, _ => exact absurd hk (by omega)
theorem inw9 : ∀ w ∈ u_ws RX9 TX9 5, w ∈ lwg := by
  intro w hw
  obtain ⟨k, hk, rfl⟩ := List.mem_map.mp hw
  have hk := List.mem_range.mp hk
  have hg : goodWord (u_lay RX9 TX9 k) = true := by unfold u_lay; split <;> rfl
  match k, hk, hg with
  | 0, _, hg => exact lwt2 (i := 158) (by decide +kernel) hg
  | 1, _, hg => exact lwt2 (i := 160) (by decide +kernel) hg
  | 2, _, hg => exact lwt2 (i := 162) (by decide +kernel) hg
  | 3, _, hg => exact lwt2 (i := 164) (by decide +kernel) hg
  | 4, _, hg => exact lwt2 (i := 166) (by decide +kernel) hg
  | k + 5, hk, _ => exact absurd hk (by omega)
theorem inw10 : ∀ w ∈ u_ws RX10 TX10 6, w ∈ lwg := by
  intro w hw
  obtain ⟨k, hk, rfl⟩ := List.mem_map.mp hw
  have hk := List.mem_range.mp hk
  have hg : goodWord (u_lay RX10 TX10 k) = true := by unfold u_lay; split <;> rfl
  match k, hk, hg with
  | 0, _, hg => exact lwt2 (i := 39) (by decide +kernel) hg
  | 1, _, hg => exact lwt2 (i := 41) (by decide +kernel) hg
  | 2, _, hg => exact lwt2 (i := 43) (by decide +kernel) hg
  | 3, _, hg => exact lwt2 (i := 45) (by decide +kernel) hg
  | 4, _, hg => exact lwt2 (i := 47) (by decide +kernel) hg
  | 5, _, hg => exact lwt2 (i := 49) (by decide +kernel) hg
  | k + 6, hk, _ => exact absurd hk (by omega)
theorem inw11 : ∀ w ∈ u_ws RX11 TX11 18, w ∈ lwg := by
  intro w hw
  obtain ⟨k, hk, rfl⟩ := List.mem_map.mp hw
  have hk := List.mem_range.mp hk
  have hg : goodWord (u_lay RX11 TX11 k) = true := by unfold u_lay; split <;> rfl
  match k, hk, hg with
  | 0, _, hg => exact lwt2 (i := 187) (by decide +kernel) hg
  | 1, _, hg => exact lwt2 (i := 189) (by decide +kernel) hg
  | 2, _, hg => exact lwt2 (i := 191) (by decide +kernel) hg
  | 3, _, hg => exact lwt2 (i := 193) (by decide +kernel) hg
  | 4, _, hg => exact lwt2 (i := 195) (by decide +kernel) hg
  | 5, _, hg => exact lwt2 (i := 197) (by decide +kernel) hg
  | 6, _, hg => exact lwt2 (i := 199) (by decide +kernel) hg
  | 7, _, hg => exact lwt2 (i := 201) (by decide +kernel) hg
  | 8, _, hg => exact lwt2 (i := 203) (by decide +kernel) hg
  | 9, _, hg => exact lwt2 (i := 205) (by decide +kernel) hg
  | 10, _, hg => exact lwt2 (i := 207) (by decide +kernel) hg
  | 11, _, hg => exact lwt2 (i := 209) (by decide +kernel) hg
  | 12, _, hg => exact lwt2 (i := 211) (by decide +kernel) hg
  | 13, _, hg => exact lwt2 (i := 213) (by decide +kernel) hg
  | 14, _, hg => exact lwt2 (i := 215) (by decide +kernel) hg
  | 15, _, hg => exact lwt2 (i := 217) (by decide +kernel) hg
  | 16, _, hg => exact lwt2 (i := 219) (by decide +kernel) hg
  | 17, _, hg => exact lwt2 (i := 221) (by decide +kernel) hg
  | k + 18, hk, _ => exact absurd hk (by omega)
theorem inw12 : ∀ w ∈ u_ws RX12 TX12 48, w ∈ lwg := by
  intro w hw
  obtain ⟨k, hk, rfl⟩ := List.mem_map.mp hw
  have hk := List.mem_range.mp hk
  have hg : goodWord (u_lay RX12 TX12 k) = true := by unfold u_lay; split <;> rfl
  match k, hk, hg with
  | 0, _, hg => exact lwt6 (i := 62) (by decide +kernel) hg
  | 1, _, hg => exact lwt6 (i := 64) (by decide +kernel) hg
  | 2, _, hg => exact lwt6 (i := 66) (by decide +kernel) hg
  | 3, _, hg => exact lwt6 (i := 68) (by decide +kernel) hg
  | 4, _, hg => exact lwt6 (i := 70) (by decide +kernel) hg
  | 5, _, hg => exact lwt6 (i := 72) (by decide +kernel) hg
  | 6, _, hg => exact lwt6 (i := 74) (by decide +kernel) hg
  | 7, _, hg => exact lwt6 (i := 76) (by decide +kernel) hg
  | 8, _, hg => exact lwt6 (i := 78) (by decide +kernel) hg
  | 9, _, hg => exact lwt6 (i := 80) (by decide +kernel) hg
  | 10, _, hg => exact lwt6 (i := 82) (by decide +kernel) hg
  | 11, _, hg => exact lwt6 (i := 84) (by decide +kernel) hg
  | 12, _, hg => exact lwt6 (i := 86) (by decide +kernel) hg
  | 13, _, hg => exact lwt6 (i := 88) (by decide +kernel) hg
  | 14, _, hg => exact lwt6 (i := 90) (by decide +kernel) hg
  | 15, _, hg => exact lwt6 (i := 92) (by decide +kernel) hg
  | 16, _, hg => exact lwt6 (i := 94) (by decide +kernel) hg
  | 17, _, hg => exact lwt6 (i := 96) (by decide +kernel) hg
  | 18, _, hg => exact lwt6 (i := 98) (by decide +kernel) hg
  | 19, _, hg => exact lwt6 (i := 100) (by decide +kernel) hg
  | 20, _, hg => exact lwt6 (i := 102) (by decide +kernel) hg
  | 21, _, hg => exact lwt6 (i := 104) (by decide +kernel) hg
  | 22, _, hg => exact lwt6 (i := 106) (by decide +kernel) hg
  | 23, _, hg => exact lwt6 (i := 108) (by decide +kernel) hg
  | 24, _, hg => exact lwt6 (i := 110) (by decide +kernel) hg
  | 25, _, hg => exact lwt6 (i := 112) (by decide +kernel) hg
  | 26, _, hg => exact lwt6 (i := 114) (by decide +kernel) hg
  | 27, _, hg => exact lwt6 (i := 116) (by decide +kernel) hg
  | 28, _, hg => exact lwt6 (i := 118) (by decide +kernel) hg
  | 29, _, hg => exact lwt6 (i := 120) (by decide +kernel) hg
  | 30, _, hg => exact lwt6 (i := 122) (by decide +kernel) hg
  | 31, _, hg => exact lwt6 (i := 124) (by decide +kernel) hg
  | 32, _, hg => exact lwt6 (i := 126) (by decide +kernel) hg
  | 33, _, hg => exact lwt6 (i := 128) (by decide +kernel) hg
  | 34, _, hg => exact lwt6 (i := 130) (by decide +kernel) hg
  | 35, _, hg => exact lwt6 (i := 132) (by decide +kernel) hg
  | 36, _, hg => exact lwt6 (i := 134) (by decide +kernel) hg
  | 37, _, hg => exact lwt6 (i := 136) (by decide +kernel) hg
  | 38, _, hg => exact lwt6 (i := 138) (by decide +kernel) hg
  | 39, _, hg => exact lwt6 (i := 140) (by decide +kernel) hg
  | 40, _, hg => exact lwt6 (i := 142) (by decide +kernel) hg
  | 41, _, hg => exact lwt6 (i := 144) (by decide +kernel) hg
  | 42, _, hg => exact lwt6 (i := 146) (by decide +kernel) hg
  | 43, _, hg => exact lwt6 (i := 148) (by decide +kernel) hg
  | 44, _, hg => exact lwt6 (i := 150) (by decide +kernel) hg
  | 45, _, hg => exact lwt6 (i := 152) (by decide +kernel) hg
  | 46, _, hg => exact lwt6 (i := 154) (by decide +kernel) hg
  | 47, _, hg => exact lwt6 (i := 156) (by decide +kernel) hg
  | k + 48, hk, _ => exact absurd hk (by omega)
theorem fw_0_9 : FW RX0 9 0 0 := ⟨RX0, TX0, 14, rfl, by decide, inw0, lwt1 (i := 115) (by decide +kernel) rfl⟩
theorem fw_0_15 : FW RX0 15 0 1 := ⟨RX0, TX0, 14, rfl, by decide, inw0, lwt1 (i := 117) (by decide +kernel) rfl⟩
theorem fw_0_18 : FW RX0 18 0 2 := ⟨RX0, TX0, 14, rfl, by decide, inw0, lwt1 (i := 120) (by decide +kernel) rfl⟩
theorem fw_0_21 : FW RX0 21 0 3 := ⟨RX0, TX0, 14, rfl, by decide, inw0, lwt1 (i := 123) (by decide +kernel) rfl⟩
theorem fw_0_24 : FW RX0 24 0 4 := ⟨RX0, TX0, 14, rfl, by decide, inw0, lwt1 (i := 127) (by decide +kernel) rfl⟩
theorem fw_0_27 : FW RX0 27 0 5 := ⟨RX0, TX0, 14, rfl, by decide, inw0, lwt1 (i := 130) (by decide +kernel) rfl⟩
theorem fw_0_30 : FW RX0 30 0 6 := ⟨RX0, TX0, 14, rfl, by decide, inw0, lwt1 (i := 134) (by decide +kernel) rfl⟩
theorem fw_0_36 : FW RX0 36 0 7 := ⟨RX0, TX0, 14, rfl, by decide, inw0, lwt1 (i := 139) (by decide +kernel) rfl⟩
theorem fw_0_40 : FW RX0 40 0 8 := ⟨RX0, TX0, 14, rfl, by decide, inw0, lwt1 (i := 144) (by decide +kernel) rfl⟩
theorem fw_0_44 : FW RX0 44 0 9 := ⟨RX0, TX0, 14, rfl, by decide, inw0, lwt1 (i := 149) (by decide +kernel) rfl⟩
theorem fw_0_50 : FW RX0 50 0 11 := ⟨RX0, TX0, 14, rfl, by decide, inw0, lwt1 (i := 157) (by decide +kernel) rfl⟩
theorem fw_1_9 : FW RX1 9 1 0 := ⟨RX1, TX1, 14, rfl, by decide, inw1, lwt2 (i := 92) (by decide +kernel) rfl⟩
theorem fw_1_15 : FW RX1 15 1 1 := ⟨RX1, TX1, 14, rfl, by decide, inw1, lwt2 (i := 93) (by decide +kernel) rfl⟩
theorem fw_1_18 : FW RX1 18 1 2 := ⟨RX1, TX1, 14, rfl, by decide, inw1, lwt2 (i := 95) (by decide +kernel) rfl⟩
theorem fw_1_21 : FW RX1 21 1 3 := ⟨RX1, TX1, 14, rfl, by decide, inw1, lwt2 (i := 97) (by decide +kernel) rfl⟩
theorem fw_1_24 : FW RX1 24 1 4 := ⟨RX1, TX1, 14, rfl, by decide, inw1, lwt2 (i := 98) (by decide +kernel) rfl⟩
theorem fw_1_27 : FW RX1 27 1 5 := ⟨RX1, TX1, 14, rfl, by decide, inw1, lwt2 (i := 100) (by decide +kernel) rfl⟩
theorem fw_1_30 : FW RX1 30 1 6 := ⟨RX1, TX1, 14, rfl, by decide, inw1, lwt2 (i := 101) (by decide +kernel) rfl⟩
theorem fw_1_33 : FW RX1 33 1 7 := ⟨RX1, TX1, 14, rfl, by decide, inw1, lwt2 (i := 102) (by decide +kernel) rfl⟩
theorem fw_1_36 : FW RX1 36 1 8 := ⟨RX1, TX1, 14, rfl, by decide, inw1, lwt2 (i := 103) (by decide +kernel) rfl⟩
theorem fw_1_39 : FW RX1 39 1 9 := ⟨RX1, TX1, 14, rfl, by decide, inw1, lwt2 (i := 105) (by decide +kernel) rfl⟩
theorem fw_1_46 : FW RX1 46 1 11 := ⟨RX1, TX1, 14, rfl, by decide, inw1, lwt2 (i := 108) (by decide +kernel) rfl⟩
theorem fw_1_49 : FW RX1 49 1 12 := ⟨RX1, TX1, 14, rfl, by decide, inw1, lwt2 (i := 109) (by decide +kernel) rfl⟩
theorem fw_1_52 : FW RX1 52 1 13 := ⟨RX1, TX1, 14, rfl, by decide, inw1, lwt2 (i := 111) (by decide +kernel) rfl⟩
theorem fw_1_55 : FW RX1 55 0 9 := ⟨RX0, TX0, 14, rfl, by decide, inw0, lwt1 (i := 150) (by decide +kernel) rfl⟩
theorem fw_1_62 : FW RX1 62 0 6 := ⟨RX0, TX0, 14, rfl, by decide, inw0, lwt1 (i := 136) (by decide +kernel) rfl⟩
theorem fw_1_70 : FW RX1 70 6 0 := ⟨RX6, TX6, 2, rfl, by decide, inw6, lwt2 (i := 76) (by decide +kernel) rfl⟩
theorem fw_1_79 : FW RX1 79 6 1 := ⟨RX6, TX6, 2, rfl, by decide, inw6, lwt2 (i := 79) (by decide +kernel) rfl⟩
theorem fw_1_80 : FW RX1 80 5 3 := ⟨RX5, TX5, 4, rfl, by decide, inw5, lwt1 (i := 211) (by decide +kernel) rfl⟩
theorem fw_1_85 : FW RX1 85 5 0 := ⟨RX5, TX5, 4, rfl, by decide, inw5, lwt1 (i := 202) (by decide +kernel) rfl⟩
theorem fw_1_88 : FW RX1 88 5 1 := ⟨RX5, TX5, 4, rfl, by decide, inw5, lwt1 (i := 205) (by decide +kernel) rfl⟩
theorem fw_1_91 : FW RX1 91 5 2 := ⟨RX5, TX5, 4, rfl, by decide, inw5, lwt1 (i := 208) (by decide +kernel) rfl⟩
theorem fw_2_11 : FW RX2 11 2 0 := ⟨RX2, TX2, 2, rfl, by decide, inw2, lwt1 (i := 228) (by decide +kernel) rfl⟩
theorem fw_2_15 : FW RX2 15 2 1 := ⟨RX2, TX2, 2, rfl, by decide, inw2, lwt1 (i := 230) (by decide +kernel) rfl⟩
theorem fw_4_9 : FW RX4 9 4 0 := ⟨RX4, TX4, 3, rfl, by decide, inw4, lwt2 (i := 59) (by decide +kernel) rfl⟩
theorem fw_4_15 : FW RX4 15 4 1 := ⟨RX4, TX4, 3, rfl, by decide, inw4, lwt2 (i := 60) (by decide +kernel) rfl⟩
theorem fw_4_18 : FW RX4 18 4 2 := ⟨RX4, TX4, 3, rfl, by decide, inw4, lwt2 (i := 61) (by decide +kernel) rfl⟩
theorem fw_4_22 : FW RX4 22 0 7 := ⟨RX0, TX0, 14, rfl, by decide, inw0, lwt1 (i := 141) (by decide +kernel) rfl⟩
theorem fw_4_28 : FW RX4 28 7 4 := ⟨RX7, TX7, 5, rfl, by decide, inw7, lwt1 (i := 99) (by decide +kernel) rfl⟩
theorem fw_4_33 : FW RX4 33 7 3 := ⟨RX7, TX7, 5, rfl, by decide, inw7, lwt1 (i := 95) (by decide +kernel) rfl⟩
theorem fw_4_49 : FW RX4 49 0 8 := ⟨RX0, TX0, 14, rfl, by decide, inw0, lwt1 (i := 146) (by decide +kernel) rfl⟩
theorem fw_5_9 : FW RX5 9 5 0 := ⟨RX5, TX5, 4, rfl, by decide, inw5, lwt1 (i := 201) (by decide +kernel) rfl⟩
theorem fw_5_15 : FW RX5 15 5 1 := ⟨RX5, TX5, 4, rfl, by decide, inw5, lwt1 (i := 204) (by decide +kernel) rfl⟩
theorem fw_5_18 : FW RX5 18 5 2 := ⟨RX5, TX5, 4, rfl, by decide, inw5, lwt1 (i := 207) (by decide +kernel) rfl⟩
theorem fw_5_21 : FW RX5 21 5 3 := ⟨RX5, TX5, 4, rfl, by decide, inw5, lwt1 (i := 210) (by decide +kernel) rfl⟩
theorem fw_6_9 : FW RX6 9 6 0 := ⟨RX6, TX6, 2, rfl, by decide, inw6, lwt2 (i := 75) (by decide +kernel) rfl⟩
theorem fw_6_15 : FW RX6 15 6 1 := ⟨RX6, TX6, 2, rfl, by decide, inw6, lwt2 (i := 78) (by decide +kernel) rfl⟩
theorem fw_6_18 : FW RX6 18 0 9 := ⟨RX0, TX0, 14, rfl, by decide, inw0, lwt1 (i := 151) (by decide +kernel) rfl⟩
theorem fw_6_24 : FW RX6 24 0 6 := ⟨RX0, TX0, 14, rfl, by decide, inw0, lwt1 (i := 135) (by decide +kernel) rfl⟩
theorem fw_6_39 : FW RX6 39 0 5 := ⟨RX0, TX0, 14, rfl, by decide, inw0, lwt1 (i := 131) (by decide +kernel) rfl⟩
theorem fw_6_50 : FW RX6 50 0 3 := ⟨RX0, TX0, 14, rfl, by decide, inw0, lwt1 (i := 124) (by decide +kernel) rfl⟩
theorem fw_7_9 : FW RX7 9 7 0 := ⟨RX7, TX7, 5, rfl, by decide, inw7, lwt1 (i := 88) (by decide +kernel) rfl⟩
theorem fw_7_15 : FW RX7 15 7 1 := ⟨RX7, TX7, 5, rfl, by decide, inw7, lwt1 (i := 90) (by decide +kernel) rfl⟩
theorem fw_7_18 : FW RX7 18 7 2 := ⟨RX7, TX7, 5, rfl, by decide, inw7, lwt1 (i := 92) (by decide +kernel) rfl⟩
theorem fw_7_21 : FW RX7 21 7 3 := ⟨RX7, TX7, 5, rfl, by decide, inw7, lwt1 (i := 94) (by decide +kernel) rfl⟩
theorem fw_7_24 : FW RX7 24 7 4 := ⟨RX7, TX7, 5, rfl, by decide, inw7, lwt1 (i := 97) (by decide +kernel) rfl⟩
theorem fw_8_9 : FW RX8 9 8 0 := ⟨RX8, TX8, 11, rfl, by decide, inw8, lwt1 (i := 37) (by decide +kernel) rfl⟩
theorem fw_8_15 : FW RX8 15 8 1 := ⟨RX8, TX8, 11, rfl, by decide, inw8, lwt1 (i := 38) (by decide +kernel) rfl⟩
theorem fw_8_19 : FW RX8 19 8 2 := ⟨RX8, TX8, 11, rfl, by decide, inw8, lwt1 (i := 40) (by decide +kernel) rfl⟩
theorem fw_8_22 : FW RX8 22 8 3 := ⟨RX8, TX8, 11, rfl, by decide, inw8, lwt1 (i := 41) (by decide +kernel) rfl⟩
theorem fw_8_25 : FW RX8 25 8 4 := ⟨RX8, TX8, 11, rfl, by decide, inw8, lwt1 (i := 42) (by decide +kernel) rfl⟩
theorem fw_8_28 : FW RX8 28 8 5 := ⟨RX8, TX8, 11, rfl, by decide, inw8, lwt1 (i := 43) (by decide +kernel) rfl⟩
theorem fw_8_31 : FW RX8 31 8 6 := ⟨RX8, TX8, 11, rfl, by decide, inw8, lwt1 (i := 44) (by decide +kernel) rfl⟩
theorem fw_8_34 : FW RX8 34 8 7 := ⟨RX8, TX8, 11, rfl, by decide, inw8, lwt1 (i := 45) (by decide +kernel) rfl⟩
theorem fw_8_37 : FW RX8 37 8 8 := ⟨RX8, TX8, 11, rfl, by decide, inw8, lwt1 (i := 47) (by decide +kernel) rfl⟩
theorem fw_8_82 : FW RX8 82 0 8 := ⟨RX0, TX0, 14, rfl, by decide, inw0, lwt1 (i := 147) (by decide +kernel) rfl⟩
theorem fw_8_85 : FW RX8 85 0 0 := ⟨RX0, TX0, 14, rfl, by decide, inw0, lwt1 (i := 116) (by decide +kernel) rfl⟩
theorem fw_8_93 : FW RX8 93 0 1 := ⟨RX0, TX0, 14, rfl, by decide, inw0, lwt1 (i := 119) (by decide +kernel) rfl⟩
theorem fw_8_96 : FW RX8 96 0 2 := ⟨RX0, TX0, 14, rfl, by decide, inw0, lwt1 (i := 122) (by decide +kernel) rfl⟩
theorem fw_8_99 : FW RX8 99 0 7 := ⟨RX0, TX0, 14, rfl, by decide, inw0, lwt1 (i := 142) (by decide +kernel) rfl⟩
theorem fw_8_103 : FW RX8 103 7 4 := ⟨RX7, TX7, 5, rfl, by decide, inw7, lwt1 (i := 101) (by decide +kernel) rfl⟩
theorem fw_8_115 : FW RX8 115 0 9 := ⟨RX0, TX0, 14, rfl, by decide, inw0, lwt1 (i := 152) (by decide +kernel) rfl⟩
theorem fw_8_118 : FW RX8 118 0 3 := ⟨RX0, TX0, 14, rfl, by decide, inw0, lwt1 (i := 126) (by decide +kernel) rfl⟩
theorem fw_8_121 : FW RX8 121 0 4 := ⟨RX0, TX0, 14, rfl, by decide, inw0, lwt1 (i := 129) (by decide +kernel) rfl⟩
theorem fw_8_124 : FW RX8 124 0 5 := ⟨RX0, TX0, 14, rfl, by decide, inw0, lwt1 (i := 133) (by decide +kernel) rfl⟩
theorem fw_8_133 : FW RX8 133 0 6 := ⟨RX0, TX0, 14, rfl, by decide, inw0, lwt1 (i := 138) (by decide +kernel) rfl⟩
theorem fw_9_9 : FW RX9 9 9 0 := ⟨RX9, TX9, 5, rfl, by decide, inw9, lwt2 (i := 148) (by decide +kernel) rfl⟩
theorem fw_9_15 : FW RX9 15 9 1 := ⟨RX9, TX9, 5, rfl, by decide, inw9, lwt2 (i := 150) (by decide +kernel) rfl⟩
theorem fw_9_18 : FW RX9 18 9 2 := ⟨RX9, TX9, 5, rfl, by decide, inw9, lwt2 (i := 152) (by decide +kernel) rfl⟩
theorem fw_9_21 : FW RX9 21 9 3 := ⟨RX9, TX9, 5, rfl, by decide, inw9, lwt2 (i := 154) (by decide +kernel) rfl⟩
theorem fw_9_24 : FW RX9 24 9 4 := ⟨RX9, TX9, 5, rfl, by decide, inw9, lwt2 (i := 156) (by decide +kernel) rfl⟩
theorem fw_10_9 : FW RX10 9 10 0 := ⟨RX10, TX10, 6, rfl, by decide, inw10, lwt2 (i := 30) (by decide +kernel) rfl⟩
theorem fw_10_15 : FW RX10 15 10 1 := ⟨RX10, TX10, 6, rfl, by decide, inw10, lwt2 (i := 32) (by decide +kernel) rfl⟩
theorem fw_10_18 : FW RX10 18 10 2 := ⟨RX10, TX10, 6, rfl, by decide, inw10, lwt2 (i := 33) (by decide +kernel) rfl⟩
theorem fw_10_22 : FW RX10 22 10 3 := ⟨RX10, TX10, 6, rfl, by decide, inw10, lwt2 (i := 35) (by decide +kernel) rfl⟩
theorem fw_10_25 : FW RX10 25 10 4 := ⟨RX10, TX10, 6, rfl, by decide, inw10, lwt2 (i := 37) (by decide +kernel) rfl⟩
theorem fw_10_28 : FW RX10 28 10 5 := ⟨RX10, TX10, 6, rfl, by decide, inw10, lwt2 (i := 38) (by decide +kernel) rfl⟩
theorem fw_10_32 : FW RX10 32 0 8 := ⟨RX0, TX0, 14, rfl, by decide, inw0, lwt1 (i := 145) (by decide +kernel) rfl⟩
theorem fw_10_35 : FW RX10 35 0 7 := ⟨RX0, TX0, 14, rfl, by decide, inw0, lwt1 (i := 140) (by decide +kernel) rfl⟩
theorem fw_10_46 : FW RX10 46 7 4 := ⟨RX7, TX7, 5, rfl, by decide, inw7, lwt1 (i := 100) (by decide +kernel) rfl⟩
theorem fw_10_51 : FW RX10 51 7 0 := ⟨RX7, TX7, 5, rfl, by decide, inw7, lwt1 (i := 89) (by decide +kernel) rfl⟩
theorem fw_10_54 : FW RX10 54 7 1 := ⟨RX7, TX7, 5, rfl, by decide, inw7, lwt1 (i := 91) (by decide +kernel) rfl⟩
theorem fw_10_57 : FW RX10 57 7 3 := ⟨RX7, TX7, 5, rfl, by decide, inw7, lwt1 (i := 96) (by decide +kernel) rfl⟩
theorem fw_10_58 : FW RX10 58 7 2 := ⟨RX7, TX7, 5, rfl, by decide, inw7, lwt1 (i := 93) (by decide +kernel) rfl⟩
theorem fw_11_10 : FW RX11 10 11 0 := ⟨RX11, TX11, 18, rfl, by decide, inw11, lwt2 (i := 169) (by decide +kernel) rfl⟩
theorem fw_11_19 : FW RX11 19 11 1 := ⟨RX11, TX11, 18, rfl, by decide, inw11, lwt2 (i := 170) (by decide +kernel) rfl⟩
theorem fw_11_23 : FW RX11 23 11 2 := ⟨RX11, TX11, 18, rfl, by decide, inw11, lwt2 (i := 171) (by decide +kernel) rfl⟩
theorem fw_11_29 : FW RX11 29 11 3 := ⟨RX11, TX11, 18, rfl, by decide, inw11, lwt2 (i := 172) (by decide +kernel) rfl⟩
theorem fw_11_36 : FW RX11 36 11 4 := ⟨RX11, TX11, 18, rfl, by decide, inw11, lwt2 (i := 173) (by decide +kernel) rfl⟩
theorem fw_11_43 : FW RX11 43 11 5 := ⟨RX11, TX11, 18, rfl, by decide, inw11, lwt2 (i := 174) (by decide +kernel) rfl⟩
theorem fw_11_50 : FW RX11 50 11 6 := ⟨RX11, TX11, 18, rfl, by decide, inw11, lwt2 (i := 175) (by decide +kernel) rfl⟩
theorem fw_11_57 : FW RX11 57 11 7 := ⟨RX11, TX11, 18, rfl, by decide, inw11, lwt2 (i := 176) (by decide +kernel) rfl⟩
theorem fw_11_64 : FW RX11 64 11 8 := ⟨RX11, TX11, 18, rfl, by decide, inw11, lwt2 (i := 177) (by decide +kernel) rfl⟩
theorem fw_11_71 : FW RX11 71 11 9 := ⟨RX11, TX11, 18, rfl, by decide, inw11, lwt2 (i := 178) (by decide +kernel) rfl⟩
theorem fw_11_78 : FW RX11 78 11 10 := ⟨RX11, TX11, 18, rfl, by decide, inw11, lwt2 (i := 179) (by decide +kernel) rfl⟩
theorem fw_11_82 : FW RX11 82 11 11 := ⟨RX11, TX11, 18, rfl, by decide, inw11, lwt2 (i := 180) (by decide +kernel) rfl⟩
theorem fw_11_85 : FW RX11 85 11 12 := ⟨RX11, TX11, 18, rfl, by decide, inw11, lwt2 (i := 181) (by decide +kernel) rfl⟩
theorem fw_11_88 : FW RX11 88 11 13 := ⟨RX11, TX11, 18, rfl, by decide, inw11, lwt2 (i := 182) (by decide +kernel) rfl⟩
theorem fw_11_91 : FW RX11 91 11 14 := ⟨RX11, TX11, 18, rfl, by decide, inw11, lwt2 (i := 183) (by decide +kernel) rfl⟩
theorem fw_11_94 : FW RX11 94 11 15 := ⟨RX11, TX11, 18, rfl, by decide, inw11, lwt2 (i := 184) (by decide +kernel) rfl⟩
theorem fw_11_98 : FW RX11 98 11 16 := ⟨RX11, TX11, 18, rfl, by decide, inw11, lwt2 (i := 185) (by decide +kernel) rfl⟩
theorem fw_11_102 : FW RX11 102 11 17 := ⟨RX11, TX11, 18, rfl, by decide, inw11, lwt2 (i := 186) (by decide +kernel) rfl⟩
theorem fw_11_105 : FW RX11 105 8 1 := ⟨RX8, TX8, 11, rfl, by decide, inw8, lwt1 (i := 39) (by decide +kernel) rfl⟩
theorem fw_11_121 : FW RX11 121 3 3 := ⟨RX3, TX3, 4, rfl, by decide, inw3, lwt2 (i := 14) (by decide +kernel) rfl⟩
theorem fw_11_127 : FW RX11 127 8 7 := ⟨RX8, TX8, 11, rfl, by decide, inw8, lwt1 (i := 46) (by decide +kernel) rfl⟩
theorem fw_11_130 : FW RX11 130 8 9 := ⟨RX8, TX8, 11, rfl, by decide, inw8, lwt1 (i := 49) (by decide +kernel) rfl⟩
theorem fw_11_133 : FW RX11 133 8 10 := ⟨RX8, TX8, 11, rfl, by decide, inw8, lwt1 (i := 51) (by decide +kernel) rfl⟩
theorem fw_11_154 : FW RX11 154 0 2 := ⟨RX0, TX0, 14, rfl, by decide, inw0, lwt1 (i := 121) (by decide +kernel) rfl⟩
theorem fw_11_169 : FW RX11 169 0 3 := ⟨RX0, TX0, 14, rfl, by decide, inw0, lwt1 (i := 125) (by decide +kernel) rfl⟩
theorem fw_11_172 : FW RX11 172 0 4 := ⟨RX0, TX0, 14, rfl, by decide, inw0, lwt1 (i := 128) (by decide +kernel) rfl⟩
theorem fw_11_175 : FW RX11 175 0 5 := ⟨RX0, TX0, 14, rfl, by decide, inw0, lwt1 (i := 132) (by decide +kernel) rfl⟩
theorem fw_11_178 : FW RX11 178 0 6 := ⟨RX0, TX0, 14, rfl, by decide, inw0, lwt1 (i := 137) (by decide +kernel) rfl⟩
theorem fw_11_199 : FW RX11 199 10 0 := ⟨RX10, TX10, 6, rfl, by decide, inw10, lwt2 (i := 31) (by decide +kernel) rfl⟩
theorem fw_11_205 : FW RX11 205 10 2 := ⟨RX10, TX10, 6, rfl, by decide, inw10, lwt2 (i := 34) (by decide +kernel) rfl⟩
theorem fw_11_217 : FW RX11 217 0 10 := ⟨RX0, TX0, 14, rfl, by decide, inw0, lwt1 (i := 155) (by decide +kernel) rfl⟩
theorem fw_11_223 : FW RX11 223 10 3 := ⟨RX10, TX10, 6, rfl, by decide, inw10, lwt2 (i := 36) (by decide +kernel) rfl⟩
theorem fw_11_250 : FW RX11 250 0 7 := ⟨RX0, TX0, 14, rfl, by decide, inw0, lwt1 (i := 143) (by decide +kernel) rfl⟩
theorem fw_11_253 : FW RX11 253 7 4 := ⟨RX7, TX7, 5, rfl, by decide, inw7, lwt1 (i := 102) (by decide +kernel) rfl⟩
theorem fw_11_273 : FW RX11 273 5 3 := ⟨RX5, TX5, 4, rfl, by decide, inw5, lwt1 (i := 212) (by decide +kernel) rfl⟩
theorem fw_11_274 : FW RX11 274 5 0 := ⟨RX5, TX5, 4, rfl, by decide, inw5, lwt1 (i := 203) (by decide +kernel) rfl⟩
theorem fw_11_277 : FW RX11 277 5 1 := ⟨RX5, TX5, 4, rfl, by decide, inw5, lwt1 (i := 206) (by decide +kernel) rfl⟩
theorem fw_11_283 : FW RX11 283 6 0 := ⟨RX6, TX6, 2, rfl, by decide, inw6, lwt2 (i := 77) (by decide +kernel) rfl⟩
theorem fw_11_297 : FW RX11 297 6 1 := ⟨RX6, TX6, 2, rfl, by decide, inw6, lwt2 (i := 80) (by decide +kernel) rfl⟩
theorem fw_11_311 : FW RX11 311 5 2 := ⟨RX5, TX5, 4, rfl, by decide, inw5, lwt1 (i := 209) (by decide +kernel) rfl⟩
theorem fw_11_324 : FW RX11 324 0 9 := ⟨RX0, TX0, 14, rfl, by decide, inw0, lwt1 (i := 153) (by decide +kernel) rfl⟩
theorem fw_11_327 : FW RX11 327 1 4 := ⟨RX1, TX1, 14, rfl, by decide, inw1, lwt2 (i := 99) (by decide +kernel) rfl⟩
theorem fw_11_336 : FW RX11 336 1 13 := ⟨RX1, TX1, 14, rfl, by decide, inw1, lwt2 (i := 112) (by decide +kernel) rfl⟩
theorem fw_11_343 : FW RX11 343 1 12 := ⟨RX1, TX1, 14, rfl, by decide, inw1, lwt2 (i := 110) (by decide +kernel) rfl⟩
theorem fw_11_352 : FW RX11 352 1 1 := ⟨RX1, TX1, 14, rfl, by decide, inw1, lwt2 (i := 94) (by decide +kernel) rfl⟩
theorem fw_11_355 : FW RX11 355 1 10 := ⟨RX1, TX1, 14, rfl, by decide, inw1, lwt2 (i := 107) (by decide +kernel) rfl⟩
theorem fw_11_358 : FW RX11 358 1 8 := ⟨RX1, TX1, 14, rfl, by decide, inw1, lwt2 (i := 104) (by decide +kernel) rfl⟩
theorem fw_11_384 : FW RX11 384 9 4 := ⟨RX9, TX9, 5, rfl, by decide, inw9, lwt2 (i := 157) (by decide +kernel) rfl⟩
theorem fw_11_385 : FW RX11 385 9 1 := ⟨RX9, TX9, 5, rfl, by decide, inw9, lwt2 (i := 151) (by decide +kernel) rfl⟩
theorem fw_11_388 : FW RX11 388 9 2 := ⟨RX9, TX9, 5, rfl, by decide, inw9, lwt2 (i := 153) (by decide +kernel) rfl⟩
theorem fw_11_391 : FW RX11 391 9 3 := ⟨RX9, TX9, 5, rfl, by decide, inw9, lwt2 (i := 155) (by decide +kernel) rfl⟩
theorem fw_11_392 : FW RX11 392 0 8 := ⟨RX0, TX0, 14, rfl, by decide, inw0, lwt1 (i := 148) (by decide +kernel) rfl⟩
theorem fw_11_395 : FW RX11 395 9 0 := ⟨RX9, TX9, 5, rfl, by decide, inw9, lwt2 (i := 149) (by decide +kernel) rfl⟩
theorem fw_11_413 : FW RX11 413 1 2 := ⟨RX1, TX1, 14, rfl, by decide, inw1, lwt2 (i := 96) (by decide +kernel) rfl⟩
theorem fw_11_428 : FW RX11 428 0 12 := ⟨RX0, TX0, 14, rfl, by decide, inw0, lwt1 (i := 162) (by decide +kernel) rfl⟩
theorem fw_11_447 : FW RX11 447 0 13 := ⟨RX0, TX0, 14, rfl, by decide, inw0, lwt1 (i := 165) (by decide +kernel) rfl⟩
theorem fw_11_458 : FW RX11 458 2 1 := ⟨RX2, TX2, 2, rfl, by decide, inw2, lwt1 (i := 231) (by decide +kernel) rfl⟩
theorem fw_11_462 : FW RX11 462 2 0 := ⟨RX2, TX2, 2, rfl, by decide, inw2, lwt1 (i := 229) (by decide +kernel) rfl⟩
theorem fw_11_465 : FW RX11 465 3 0 := ⟨RX3, TX3, 4, rfl, by decide, inw3, lwt2 (i := 8) (by decide +kernel) rfl⟩
theorem fw_11_466 : FW RX11 466 3 1 := ⟨RX3, TX3, 4, rfl, by decide, inw3, lwt2 (i := 10) (by decide +kernel) rfl⟩
theorem fw_11_470 : FW RX11 470 3 2 := ⟨RX3, TX3, 4, rfl, by decide, inw3, lwt2 (i := 12) (by decide +kernel) rfl⟩
theorem fw_11_471 : FW RX11 471 0 11 := ⟨RX0, TX0, 14, rfl, by decide, inw0, lwt1 (i := 159) (by decide +kernel) rfl⟩
theorem fw_12_7 : FW RX12 7 12 0 := ⟨RX12, TX12, 48, rfl, by decide, inw12, lwt6 (i := 14) (by decide +kernel) rfl⟩
theorem fw_12_13 : FW RX12 13 12 3 := ⟨RX12, TX12, 48, rfl, by decide, inw12, lwt6 (i := 17) (by decide +kernel) rfl⟩
theorem fw_12_16 : FW RX12 16 12 5 := ⟨RX12, TX12, 48, rfl, by decide, inw12, lwt6 (i := 19) (by decide +kernel) rfl⟩
theorem fw_12_20 : FW RX12 20 12 13 := ⟨RX12, TX12, 48, rfl, by decide, inw12, lwt6 (i := 27) (by decide +kernel) rfl⟩
theorem fw_12_23 : FW RX12 23 12 16 := ⟨RX12, TX12, 48, rfl, by decide, inw12, lwt6 (i := 30) (by decide +kernel) rfl⟩
theorem fw_12_26 : FW RX12 26 12 19 := ⟨RX12, TX12, 48, rfl, by decide, inw12, lwt6 (i := 33) (by decide +kernel) rfl⟩
theorem fw_12_29 : FW RX12 29 12 20 := ⟨RX12, TX12, 48, rfl, by decide, inw12, lwt6 (i := 34) (by decide +kernel) rfl⟩
theorem fw_12_32 : FW RX12 32 12 23 := ⟨RX12, TX12, 48, rfl, by decide, inw12, lwt6 (i := 37) (by decide +kernel) rfl⟩
theorem fw_12_35 : FW RX12 35 12 27 := ⟨RX12, TX12, 48, rfl, by decide, inw12, lwt6 (i := 41) (by decide +kernel) rfl⟩
theorem fw_12_39 : FW RX12 39 12 28 := ⟨RX12, TX12, 48, rfl, by decide, inw12, lwt6 (i := 42) (by decide +kernel) rfl⟩
theorem fw_12_42 : FW RX12 42 12 29 := ⟨RX12, TX12, 48, rfl, by decide, inw12, lwt6 (i := 43) (by decide +kernel) rfl⟩
theorem fw_12_45 : FW RX12 45 12 31 := ⟨RX12, TX12, 48, rfl, by decide, inw12, lwt6 (i := 45) (by decide +kernel) rfl⟩
theorem fw_12_48 : FW RX12 48 12 34 := ⟨RX12, TX12, 48, rfl, by decide, inw12, lwt6 (i := 48) (by decide +kernel) rfl⟩
theorem fw_12_51 : FW RX12 51 12 35 := ⟨RX12, TX12, 48, rfl, by decide, inw12, lwt6 (i := 49) (by decide +kernel) rfl⟩
theorem fw_12_54 : FW RX12 54 12 36 := ⟨RX12, TX12, 48, rfl, by decide, inw12, lwt6 (i := 50) (by decide +kernel) rfl⟩
theorem fw_12_57 : FW RX12 57 12 38 := ⟨RX12, TX12, 48, rfl, by decide, inw12, lwt6 (i := 52) (by decide +kernel) rfl⟩
theorem fw_12_60 : FW RX12 60 12 39 := ⟨RX12, TX12, 48, rfl, by decide, inw12, lwt6 (i := 53) (by decide +kernel) rfl⟩
theorem fw_12_63 : FW RX12 63 12 40 := ⟨RX12, TX12, 48, rfl, by decide, inw12, lwt6 (i := 54) (by decide +kernel) rfl⟩
theorem fw_12_66 : FW RX12 66 12 41 := ⟨RX12, TX12, 48, rfl, by decide, inw12, lwt6 (i := 55) (by decide +kernel) rfl⟩
theorem fw_12_69 : FW RX12 69 12 42 := ⟨RX12, TX12, 48, rfl, by decide, inw12, lwt6 (i := 56) (by decide +kernel) rfl⟩
theorem fw_12_72 : FW RX12 72 12 43 := ⟨RX12, TX12, 48, rfl, by decide, inw12, lwt6 (i := 57) (by decide +kernel) rfl⟩
theorem fw_12_81 : FW RX12 81 12 2 := ⟨RX12, TX12, 48, rfl, by decide, inw12, lwt6 (i := 16) (by decide +kernel) rfl⟩
theorem fw_12_84 : FW RX12 84 12 1 := ⟨RX12, TX12, 48, rfl, by decide, inw12, lwt6 (i := 15) (by decide +kernel) rfl⟩
theorem fw_12_87 : FW RX12 87 12 4 := ⟨RX12, TX12, 48, rfl, by decide, inw12, lwt6 (i := 18) (by decide +kernel) rfl⟩
theorem fw_12_90 : FW RX12 90 12 10 := ⟨RX12, TX12, 48, rfl, by decide, inw12, lwt6 (i := 24) (by decide +kernel) rfl⟩
theorem fw_12_93 : FW RX12 93 12 6 := ⟨RX12, TX12, 48, rfl, by decide, inw12, lwt6 (i := 20) (by decide +kernel) rfl⟩
theorem fw_12_96 : FW RX12 96 12 7 := ⟨RX12, TX12, 48, rfl, by decide, inw12, lwt6 (i := 21) (by decide +kernel) rfl⟩
theorem fw_12_99 : FW RX12 99 12 8 := ⟨RX12, TX12, 48, rfl, by decide, inw12, lwt6 (i := 22) (by decide +kernel) rfl⟩
theorem fw_12_110 : FW RX12 110 12 9 := ⟨RX12, TX12, 48, rfl, by decide, inw12, lwt6 (i := 23) (by decide +kernel) rfl⟩
theorem fw_12_120 : FW RX12 120 12 12 := ⟨RX12, TX12, 48, rfl, by decide, inw12, lwt6 (i := 26) (by decide +kernel) rfl⟩
theorem fw_12_123 : FW RX12 123 12 15 := ⟨RX12, TX12, 48, rfl, by decide, inw12, lwt6 (i := 29) (by decide +kernel) rfl⟩
theorem fw_12_126 : FW RX12 126 12 18 := ⟨RX12, TX12, 48, rfl, by decide, inw12, lwt6 (i := 32) (by decide +kernel) rfl⟩
theorem fw_12_129 : FW RX12 129 12 21 := ⟨RX12, TX12, 48, rfl, by decide, inw12, lwt6 (i := 35) (by decide +kernel) rfl⟩
theorem fw_12_132 : FW RX12 132 12 11 := ⟨RX12, TX12, 48, rfl, by decide, inw12, lwt6 (i := 25) (by decide +kernel) rfl⟩
theorem fw_12_135 : FW RX12 135 12 14 := ⟨RX12, TX12, 48, rfl, by decide, inw12, lwt6 (i := 28) (by decide +kernel) rfl⟩
theorem fw_12_138 : FW RX12 138 12 17 := ⟨RX12, TX12, 48, rfl, by decide, inw12, lwt6 (i := 31) (by decide +kernel) rfl⟩
theorem fw_12_145 : FW RX12 145 12 33 := ⟨RX12, TX12, 48, rfl, by decide, inw12, lwt6 (i := 47) (by decide +kernel) rfl⟩
theorem fw_12_148 : FW RX12 148 12 24 := ⟨RX12, TX12, 48, rfl, by decide, inw12, lwt6 (i := 38) (by decide +kernel) rfl⟩
theorem fw_12_151 : FW RX12 151 12 25 := ⟨RX12, TX12, 48, rfl, by decide, inw12, lwt6 (i := 39) (by decide +kernel) rfl⟩
theorem fw_12_154 : FW RX12 154 12 26 := ⟨RX12, TX12, 48, rfl, by decide, inw12, lwt6 (i := 40) (by decide +kernel) rfl⟩
theorem fw_12_169 : FW RX12 169 12 22 := ⟨RX12, TX12, 48, rfl, by decide, inw12, lwt6 (i := 36) (by decide +kernel) rfl⟩
theorem fw_12_220 : FW RX12 220 12 30 := ⟨RX12, TX12, 48, rfl, by decide, inw12, lwt6 (i := 44) (by decide +kernel) rfl⟩
theorem fw_12_230 : FW RX12 230 12 32 := ⟨RX12, TX12, 48, rfl, by decide, inw12, lwt6 (i := 46) (by decide +kernel) rfl⟩
theorem fw_12_289 : FW RX12 289 12 37 := ⟨RX12, TX12, 48, rfl, by decide, inw12, lwt6 (i := 51) (by decide +kernel) rfl⟩
theorem fw_12_363 : FW RX12 363 12 44 := ⟨RX12, TX12, 48, rfl, by decide, inw12, lwt6 (i := 58) (by decide +kernel) rfl⟩
theorem fw_12_366 : FW RX12 366 12 45 := ⟨RX12, TX12, 48, rfl, by decide, inw12, lwt6 (i := 59) (by decide +kernel) rfl⟩
theorem fw_12_369 : FW RX12 369 12 46 := ⟨RX12, TX12, 48, rfl, by decide, inw12, lwt6 (i := 60) (by decide +kernel) rfl⟩
theorem fw_12_379 : FW RX12 379 12 47 := ⟨RX12, TX12, 48, rfl, by decide, inw12, lwt6 (i := 61) (by decide +kernel) rfl⟩
theorem fu_0_40 : FU RX0 40 0 8 .int := ⟨RX0, TX0, 14, tyX0, rfl, by decide, inw0, lwt1 (i := 144) (by decide +kernel) rfl, tyX0_ok, nmX0, rfl, by decide +kernel⟩
theorem fu_0_44 : FU RX0 44 0 9 .int := ⟨RX0, TX0, 14, tyX0, rfl, by decide, inw0, lwt1 (i := 149) (by decide +kernel) rfl, tyX0_ok, nmX0, rfl, by decide +kernel⟩
theorem fu_0_47 : FU RX0 47 0 10 .int := ⟨RX0, TX0, 14, tyX0, rfl, by decide, inw0, lwt1 (i := 154) (by decide +kernel) rfl, tyX0_ok, nmX0, rfl, by decide +kernel⟩
theorem fu_0_50 : FU RX0 50 0 11 .int := ⟨RX0, TX0, 14, tyX0, rfl, by decide, inw0, lwt1 (i := 157) (by decide +kernel) rfl, tyX0_ok, nmX0, rfl, by decide +kernel⟩
theorem fu_0_53 : FU RX0 53 0 12 .int := ⟨RX0, TX0, 14, tyX0, rfl, by decide, inw0, lwt1 (i := 160) (by decide +kernel) rfl, tyX0_ok, nmX0, rfl, by decide +kernel⟩
theorem fu_0_56 : FU RX0 56 0 13 .int := ⟨RX0, TX0, 14, tyX0, rfl, by decide, inw0, lwt1 (i := 163) (by decide +kernel) rfl, tyX0_ok, nmX0, rfl, by decide +kernel⟩
theorem fu_0_59 : FU RX0 59 7 4 .int := ⟨RX7, TX7, 5, tyX7, rfl, by decide, inw7, lwt1 (i := 98) (by decide +kernel) rfl, tyX7_ok, nmX7, rfl, by decide +kernel⟩
theorem fu_1_39 : FU RX1 39 1 9 .int := ⟨RX1, TX1, 14, tyX1, rfl, by decide, inw1, lwt2 (i := 105) (by decide +kernel) rfl, tyX1_ok, nmX1, rfl, by decide +kernel⟩
theorem fu_1_43 : FU RX1 43 1 10 .int := ⟨RX1, TX1, 14, tyX1, rfl, by decide, inw1, lwt2 (i := 106) (by decide +kernel) rfl, tyX1_ok, nmX1, rfl, by decide +kernel⟩
theorem fu_1_46 : FU RX1 46 1 11 .int := ⟨RX1, TX1, 14, tyX1, rfl, by decide, inw1, lwt2 (i := 108) (by decide +kernel) rfl, tyX1_ok, nmX1, rfl, by decide +kernel⟩
theorem fu_1_49 : FU RX1 49 1 12 .int := ⟨RX1, TX1, 14, tyX1, rfl, by decide, inw1, lwt2 (i := 109) (by decide +kernel) rfl, tyX1_ok, nmX1, rfl, by decide +kernel⟩
theorem fu_1_52 : FU RX1 52 1 13 .int := ⟨RX1, TX1, 14, tyX1, rfl, by decide, inw1, lwt2 (i := 111) (by decide +kernel) rfl, tyX1_ok, nmX1, rfl, by decide +kernel⟩
theorem fu_2_15 : FU RX2 15 2 1 .int := ⟨RX2, TX2, 2, tyX2, rfl, by decide, inw2, lwt1 (i := 230) (by decide +kernel) rfl, tyX2_ok, nmX2, rfl, by decide +kernel⟩
theorem fu_4_18 : FU RX4 18 4 2 .int := ⟨RX4, TX4, 3, tyX4, rfl, by decide, inw4, lwt2 (i := 61) (by decide +kernel) rfl, tyX4_ok, nmX4, rfl, by decide +kernel⟩
theorem fu_5_21 : FU RX5 21 5 3 .int := ⟨RX5, TX5, 4, tyX5, rfl, by decide, inw5, lwt1 (i := 210) (by decide +kernel) rfl, tyX5_ok, nmX5, rfl, by decide +kernel⟩
theorem fu_7_24 : FU RX7 24 7 4 .int := ⟨RX7, TX7, 5, tyX7, rfl, by decide, inw7, lwt1 (i := 97) (by decide +kernel) rfl, tyX7_ok, nmX7, rfl, by decide +kernel⟩
theorem fu_8_15 : FU RX8 15 8 1 .int := ⟨RX8, TX8, 11, tyX8, rfl, by decide, inw8, lwt1 (i := 38) (by decide +kernel) rfl, tyX8_ok, nmX8, rfl, by decide +kernel⟩
theorem fu_8_19 : FU RX8 19 8 2 .int := ⟨RX8, TX8, 11, tyX8, rfl, by decide, inw8, lwt1 (i := 40) (by decide +kernel) rfl, tyX8_ok, nmX8, rfl, by decide +kernel⟩
theorem fu_8_22 : FU RX8 22 8 3 .int := ⟨RX8, TX8, 11, tyX8, rfl, by decide, inw8, lwt1 (i := 41) (by decide +kernel) rfl, tyX8_ok, nmX8, rfl, by decide +kernel⟩
theorem fu_8_25 : FU RX8 25 8 4 .int := ⟨RX8, TX8, 11, tyX8, rfl, by decide, inw8, lwt1 (i := 42) (by decide +kernel) rfl, tyX8_ok, nmX8, rfl, by decide +kernel⟩
theorem fu_8_28 : FU RX8 28 8 5 .int := ⟨RX8, TX8, 11, tyX8, rfl, by decide, inw8, lwt1 (i := 43) (by decide +kernel) rfl, tyX8_ok, nmX8, rfl, by decide +kernel⟩
theorem fu_8_31 : FU RX8 31 8 6 .int := ⟨RX8, TX8, 11, tyX8, rfl, by decide, inw8, lwt1 (i := 44) (by decide +kernel) rfl, tyX8_ok, nmX8, rfl, by decide +kernel⟩
theorem fu_8_34 : FU RX8 34 8 7 .int := ⟨RX8, TX8, 11, tyX8, rfl, by decide, inw8, lwt1 (i := 45) (by decide +kernel) rfl, tyX8_ok, nmX8, rfl, by decide +kernel⟩
theorem fu_8_37 : FU RX8 37 8 8 .int := ⟨RX8, TX8, 11, tyX8, rfl, by decide, inw8, lwt1 (i := 47) (by decide +kernel) rfl, tyX8_ok, nmX8, rfl, by decide +kernel⟩
theorem fu_8_40 : FU RX8 40 8 9 .int := ⟨RX8, TX8, 11, tyX8, rfl, by decide, inw8, lwt1 (i := 48) (by decide +kernel) rfl, tyX8_ok, nmX8, rfl, by decide +kernel⟩
theorem fu_8_43 : FU RX8 43 8 10 .int := ⟨RX8, TX8, 11, tyX8, rfl, by decide, inw8, lwt1 (i := 50) (by decide +kernel) rfl, tyX8_ok, nmX8, rfl, by decide +kernel⟩
theorem fu_8_82 : FU RX8 82 0 8 .int := ⟨RX0, TX0, 14, tyX0, rfl, by decide, inw0, lwt1 (i := 147) (by decide +kernel) rfl, tyX0_ok, nmX0, rfl, by decide +kernel⟩
theorem fu_8_115 : FU RX8 115 0 9 .int := ⟨RX0, TX0, 14, tyX0, rfl, by decide, inw0, lwt1 (i := 152) (by decide +kernel) rfl, tyX0_ok, nmX0, rfl, by decide +kernel⟩
theorem fu_8_136 : FU RX8 136 0 10 .int := ⟨RX0, TX0, 14, tyX0, rfl, by decide, inw0, lwt1 (i := 156) (by decide +kernel) rfl, tyX0_ok, nmX0, rfl, by decide +kernel⟩
theorem fu_8_139 : FU RX8 139 0 11 .int := ⟨RX0, TX0, 14, tyX0, rfl, by decide, inw0, lwt1 (i := 158) (by decide +kernel) rfl, tyX0_ok, nmX0, rfl, by decide +kernel⟩
theorem fu_8_142 : FU RX8 142 0 12 .int := ⟨RX0, TX0, 14, tyX0, rfl, by decide, inw0, lwt1 (i := 161) (by decide +kernel) rfl, tyX0_ok, nmX0, rfl, by decide +kernel⟩
theorem fu_8_145 : FU RX8 145 0 13 .int := ⟨RX0, TX0, 14, tyX0, rfl, by decide, inw0, lwt1 (i := 164) (by decide +kernel) rfl, tyX0_ok, nmX0, rfl, by decide +kernel⟩
theorem fu_9_24 : FU RX9 24 9 4 .int := ⟨RX9, TX9, 5, tyX9, rfl, by decide, inw9, lwt2 (i := 156) (by decide +kernel) rfl, tyX9_ok, nmX9, rfl, by decide +kernel⟩
theorem fu_10_28 : FU RX10 28 10 5 .int := ⟨RX10, TX10, 6, tyX10, rfl, by decide, inw10, lwt2 (i := 38) (by decide +kernel) rfl, tyX10_ok, nmX10, rfl, by decide +kernel⟩
theorem fu_11_19 : FU RX11 19 11 1 (.object "ReliefDesk$Book") := ⟨RX11, TX11, 18, tyX11, rfl, by decide, inw11, lwt2 (i := 170) (by decide +kernel) rfl, tyX11_ok, nmX11, rfl, by decide +kernel⟩
theorem fu_11_23 : FU RX11 23 11 2 (.object "ReliefDesk$Book") := ⟨RX11, TX11, 18, tyX11, rfl, by decide, inw11, lwt2 (i := 171) (by decide +kernel) rfl, tyX11_ok, nmX11, rfl, by decide +kernel⟩
theorem fu_11_98 : FU RX11 98 11 16 .boolean := ⟨RX11, TX11, 18, tyX11, rfl, by decide, inw11, lwt2 (i := 185) (by decide +kernel) rfl, tyX11_ok, nmX11, rfl, by decide +kernel⟩
theorem fu_11_102 : FU RX11 102 11 17 .boolean := ⟨RX11, TX11, 18, tyX11, rfl, by decide, inw11, lwt2 (i := 186) (by decide +kernel) rfl, tyX11_ok, nmX11, rfl, by decide +kernel⟩
theorem fu_11_121 : FU RX11 121 3 3 .boolean := ⟨RX3, TX3, 4, tyX3, rfl, by decide, inw3, lwt2 (i := 14) (by decide +kernel) rfl, tyX3_ok, nmX3, rfl, by decide +kernel⟩
theorem fu_11_273 : FU RX11 273 5 3 .int := ⟨RX5, TX5, 4, tyX5, rfl, by decide, inw5, lwt1 (i := 212) (by decide +kernel) rfl, tyX5_ok, nmX5, rfl, by decide +kernel⟩
theorem fu_12_16 : FU RX12 16 12 5 .int := ⟨RX12, TX12, 48, tyX12, rfl, by decide, inw12, lwt6 (i := 19) (by decide +kernel) rfl, tyX12_ok, nmX12, rfl, by decide +kernel⟩
theorem fu_12_45 : FU RX12 45 12 31 .int := ⟨RX12, TX12, 48, tyX12, rfl, by decide, inw12, lwt6 (i := 45) (by decide +kernel) rfl, tyX12_ok, nmX12, rfl, by decide +kernel⟩
theorem fu_12_57 : FU RX12 57 12 38 .int := ⟨RX12, TX12, 48, tyX12, rfl, by decide, inw12, lwt6 (i := 52) (by decide +kernel) rfl, tyX12_ok, nmX12, rfl, by decide +kernel⟩
theorem fu_12_81 : FU RX12 81 12 2 .int := ⟨RX12, TX12, 48, tyX12, rfl, by decide, inw12, lwt6 (i := 16) (by decide +kernel) rfl, tyX12_ok, nmX12, rfl, by decide +kernel⟩
theorem fu_12_84 : FU RX12 84 12 1 .int := ⟨RX12, TX12, 48, tyX12, rfl, by decide, inw12, lwt6 (i := 15) (by decide +kernel) rfl, tyX12_ok, nmX12, rfl, by decide +kernel⟩
theorem fu_12_87 : FU RX12 87 12 4 .int := ⟨RX12, TX12, 48, tyX12, rfl, by decide, inw12, lwt6 (i := 18) (by decide +kernel) rfl, tyX12_ok, nmX12, rfl, by decide +kernel⟩
theorem fu_12_90 : FU RX12 90 12 10 .int := ⟨RX12, TX12, 48, tyX12, rfl, by decide, inw12, lwt6 (i := 24) (by decide +kernel) rfl, tyX12_ok, nmX12, rfl, by decide +kernel⟩
theorem fu_12_93 : FU RX12 93 12 6 .int := ⟨RX12, TX12, 48, tyX12, rfl, by decide, inw12, lwt6 (i := 20) (by decide +kernel) rfl, tyX12_ok, nmX12, rfl, by decide +kernel⟩
theorem fu_12_96 : FU RX12 96 12 7 .int := ⟨RX12, TX12, 48, tyX12, rfl, by decide, inw12, lwt6 (i := 21) (by decide +kernel) rfl, tyX12_ok, nmX12, rfl, by decide +kernel⟩
theorem fu_12_99 : FU RX12 99 12 8 .int := ⟨RX12, TX12, 48, tyX12, rfl, by decide, inw12, lwt6 (i := 22) (by decide +kernel) rfl, tyX12_ok, nmX12, rfl, by decide +kernel⟩
theorem fu_12_110 : FU RX12 110 12 9 .int := ⟨RX12, TX12, 48, tyX12, rfl, by decide, inw12, lwt6 (i := 23) (by decide +kernel) rfl, tyX12_ok, nmX12, rfl, by decide +kernel⟩
theorem fu_12_120 : FU RX12 120 12 12 .int := ⟨RX12, TX12, 48, tyX12, rfl, by decide, inw12, lwt6 (i := 26) (by decide +kernel) rfl, tyX12_ok, nmX12, rfl, by decide +kernel⟩
theorem fu_12_123 : FU RX12 123 12 15 .int := ⟨RX12, TX12, 48, tyX12, rfl, by decide, inw12, lwt6 (i := 29) (by decide +kernel) rfl, tyX12_ok, nmX12, rfl, by decide +kernel⟩
theorem fu_12_126 : FU RX12 126 12 18 .int := ⟨RX12, TX12, 48, tyX12, rfl, by decide, inw12, lwt6 (i := 32) (by decide +kernel) rfl, tyX12_ok, nmX12, rfl, by decide +kernel⟩
theorem fu_12_129 : FU RX12 129 12 21 .int := ⟨RX12, TX12, 48, tyX12, rfl, by decide, inw12, lwt6 (i := 35) (by decide +kernel) rfl, tyX12_ok, nmX12, rfl, by decide +kernel⟩
theorem fu_12_132 : FU RX12 132 12 11 .int := ⟨RX12, TX12, 48, tyX12, rfl, by decide, inw12, lwt6 (i := 25) (by decide +kernel) rfl, tyX12_ok, nmX12, rfl, by decide +kernel⟩
theorem fu_12_135 : FU RX12 135 12 14 .int := ⟨RX12, TX12, 48, tyX12, rfl, by decide, inw12, lwt6 (i := 28) (by decide +kernel) rfl, tyX12_ok, nmX12, rfl, by decide +kernel⟩
theorem fu_12_138 : FU RX12 138 12 17 .int := ⟨RX12, TX12, 48, tyX12, rfl, by decide, inw12, lwt6 (i := 31) (by decide +kernel) rfl, tyX12_ok, nmX12, rfl, by decide +kernel⟩
theorem fu_12_145 : FU RX12 145 12 33 .int := ⟨RX12, TX12, 48, tyX12, rfl, by decide, inw12, lwt6 (i := 47) (by decide +kernel) rfl, tyX12_ok, nmX12, rfl, by decide +kernel⟩
theorem fu_12_148 : FU RX12 148 12 24 .int := ⟨RX12, TX12, 48, tyX12, rfl, by decide, inw12, lwt6 (i := 38) (by decide +kernel) rfl, tyX12_ok, nmX12, rfl, by decide +kernel⟩
theorem fu_12_151 : FU RX12 151 12 25 .int := ⟨RX12, TX12, 48, tyX12, rfl, by decide, inw12, lwt6 (i := 39) (by decide +kernel) rfl, tyX12_ok, nmX12, rfl, by decide +kernel⟩
theorem fu_12_154 : FU RX12 154 12 26 .boolean := ⟨RX12, TX12, 48, tyX12, rfl, by decide, inw12, lwt6 (i := 40) (by decide +kernel) rfl, tyX12_ok, nmX12, rfl, by decide +kernel⟩
theorem fu_12_169 : FU RX12 169 12 22 .int := ⟨RX12, TX12, 48, tyX12, rfl, by decide, inw12, lwt6 (i := 36) (by decide +kernel) rfl, tyX12_ok, nmX12, rfl, by decide +kernel⟩
theorem fu_12_220 : FU RX12 220 12 30 .int := ⟨RX12, TX12, 48, tyX12, rfl, by decide, inw12, lwt6 (i := 44) (by decide +kernel) rfl, tyX12_ok, nmX12, rfl, by decide +kernel⟩
theorem fu_12_230 : FU RX12 230 12 32 .int := ⟨RX12, TX12, 48, tyX12, rfl, by decide, inw12, lwt6 (i := 46) (by decide +kernel) rfl, tyX12_ok, nmX12, rfl, by decide +kernel⟩
theorem fu_12_289 : FU RX12 289 12 37 .int := ⟨RX12, TX12, 48, tyX12, rfl, by decide, inw12, lwt6 (i := 51) (by decide +kernel) rfl, tyX12_ok, nmX12, rfl, by decide +kernel⟩
theorem fu_12_363 : FU RX12 363 12 44 .int := ⟨RX12, TX12, 48, tyX12, rfl, by decide, inw12, lwt6 (i := 58) (by decide +kernel) rfl, tyX12_ok, nmX12, rfl, by decide +kernel⟩
theorem fu_12_366 : FU RX12 366 12 45 .int := ⟨RX12, TX12, 48, tyX12, rfl, by decide, inw12, lwt6 (i := 59) (by decide +kernel) rfl, tyX12_ok, nmX12, rfl, by decide +kernel⟩
theorem fu_12_369 : FU RX12 369 12 46 .int := ⟨RX12, TX12, 48, tyX12, rfl, by decide, inw12, lwt6 (i := 60) (by decide +kernel) rfl, tyX12_ok, nmX12, rfl, by decide +kernel⟩
theorem fu_12_379 : FU RX12 379 12 47 .long := ⟨RX12, TX12, 48, tyX12, rfl, by decide, inw12, lwt6 (i := 61) (by decide +kernel) rfl, tyX12_ok, nmX12, rfl, by decide +kernel⟩
theorem kd0 : knd 0 = (21, 18) := rfl
theorem kd1 : knd 1 = (18, 11) := rfl
theorem kd2 : knd 2 = (1, 700) := rfl
theorem kd3 : knd 3 = (10, 14) := rfl
theorem kd4 : knd 4 = (0, 8) := rfl
theorem kd5 : knd 5 = (0, 8) := rfl
theorem kd6 : knd 6 = (0, 8) := rfl
theorem kd7 : knd 7 = (0, 12) := rfl
theorem kd8 : knd 8 = (0, 12) := rfl
theorem kd9 : knd 9 = (0, 12) := rfl
theorem kd10 : knd 10 = (0, 12) := rfl
theorem kd11 : knd 11 = (17, 5) := rfl
theorem kd12 : knd 12 = (0, 24) := rfl
theorem kd13 : knd 13 = (0, 24) := rfl
theorem kd14 : knd 14 = (0, 24) := rfl
theorem kd15 : knd 15 = (0, 24) := rfl
theorem kd16 : knd 16 = (10, 14) := rfl
theorem kd17 : knd 17 = (0, 8) := rfl
theorem kd18 : knd 18 = (0, 8) := rfl
theorem kd19 : knd 19 = (0, 8) := rfl
theorem kd20 : knd 20 = (0, 12) := rfl
theorem kd21 : knd 21 = (0, 12) := rfl
theorem kd22 : knd 22 = (0, 12) := rfl
theorem kd23 : knd 23 = (0, 12) := rfl
theorem kd24 : knd 24 = (17, 5) := rfl
theorem kd25 : knd 25 = (0, 24) := rfl
theorem kd26 : knd 26 = (0, 24) := rfl
theorem kd27 : knd 27 = (0, 24) := rfl
theorem kd28 : knd 28 = (0, 24) := rfl
theorem kd29 : knd 29 = (15, 4) := rfl
theorem kd30 : knd 30 = (0, 30) := rfl
theorem kd31 : knd 31 = (0, 30) := rfl
theorem kd32 : knd 32 = (0, 30) := rfl
theorem kd33 : knd 33 = (12, 2) := rfl
theorem kd34 : knd 34 = (0, 100) := rfl
theorem kd35 : knd 35 = (13, 4) := rfl
theorem kd36 : knd 36 = (15, 4) := rfl
theorem kd37 : knd 37 = (0, 30) := rfl
theorem kd38 : knd 38 = (0, 30) := rfl
theorem kd39 : knd 39 = (0, 30) := rfl
theorem kd40 : knd 40 = (17, 5) := rfl
theorem kd41 : knd 41 = (0, 24) := rfl
theorem kd42 : knd 42 = (0, 24) := rfl
theorem kd43 : knd 43 = (0, 24) := rfl
theorem kd44 : knd 44 = (0, 24) := rfl
theorem kd45 : knd 45 = (0, 12) := rfl
theorem kd46 : knd 46 = (20, 6) := rfl
theorem kd47 : knd 47 = (0, 64) := rfl
theorem kd48 : knd 48 = (0, 64) := rfl
theorem kd49 : knd 49 = (2, 64) := rfl
theorem kd50 : knd 50 = (0, 8) := rfl
theorem kd51 : knd 51 = (0, 8) := rfl
theorem kd52 : knd 52 = (14, 3) := rfl
theorem kd53 : knd 53 = (0, 25) := rfl
theorem kd54 : knd 54 = (0, 200) := rfl
theorem kd55 : knd 55 = (16, 2) := rfl
theorem kd56 : knd 56 = (0, 144) := rfl
theorem kd57 : knd 57 = (0, 144) := rfl
theorem kd58 : knd 58 = (11, 14) := rfl
theorem kd59 : knd 59 = (0, 12) := rfl
theorem kd60 : knd 60 = (0, 12) := rfl
theorem kd61 : knd 61 = (0, 144) := rfl
theorem kd62 : knd 62 = (0, 144) := rfl
theorem kd63 : knd 63 = (0, 144) := rfl
theorem kd64 : knd 64 = (0, 12) := rfl
theorem kd65 : knd 65 = (0, 12) := rfl
theorem kd66 : knd 66 = (0, 12) := rfl
theorem kd67 : knd 67 = (0, 12) := rfl
theorem kd68 : knd 68 = (19, 5) := rfl
theorem kd69 : knd 69 = (0, 8) := rfl
theorem kd70 : knd 70 = (0, 8) := rfl
theorem kd71 : knd 71 = (0, 8) := rfl
theorem kd72 : knd 72 = (0, 8) := rfl
theorem kd73 : knd 73 = (15, 4) := rfl
theorem kd74 : knd 74 = (0, 30) := rfl
theorem kd75 : knd 75 = (0, 30) := rfl
theorem kd76 : knd 76 = (0, 30) := rfl
theorem kd77 : knd 77 = (14, 3) := rfl
theorem kd78 : knd 78 = (0, 25) := rfl
theorem kd79 : knd 79 = (0, 200) := rfl
theorem kd80 : knd 80 = (16, 2) := rfl
theorem kd81 : knd 81 = (0, 144) := rfl
theorem kd82 : knd 82 = (0, 144) := rfl
theorem kd83 : knd 83 = (11, 14) := rfl
theorem kd84 : knd 84 = (0, 12) := rfl
theorem kd85 : knd 85 = (0, 12) := rfl
theorem kd86 : knd 86 = (0, 144) := rfl
theorem kd87 : knd 87 = (0, 144) := rfl
theorem kd88 : knd 88 = (0, 144) := rfl
theorem kd89 : knd 89 = (0, 12) := rfl
theorem kd90 : knd 90 = (0, 12) := rfl
theorem kd91 : knd 91 = (0, 12) := rfl
theorem kd92 : knd 92 = (0, 12) := rfl
theorem kd93 : knd 93 = (0, 12) := rfl
theorem kd94 : knd 94 = (22, 48) := rfl
theorem kd95 : knd 95 = (0, 700) := rfl
theorem kd96 : knd 96 = (0, 41) := rfl
theorem kd97 : knd 97 = (0, 48) := rfl
theorem kd98 : knd 98 = (0, 96) := rfl
theorem kd99 : knd 99 = (0, 128) := rfl
theorem kd100 : knd 100 = (0, 8) := rfl
theorem kd101 : knd 101 = (0, 4600) := rfl
theorem kd102 : knd 102 = (2, 64) := rfl
theorem kd103 : knd 103 = (0, 26) := rfl
theorem kd104 : knd 104 = (0, 208) := rfl
theorem kd105 : knd 105 = (0, 12) := rfl
theorem kd106 : knd 106 = (0, 144) := rfl
theorem kd107 : knd 107 = (0, 144) := rfl
theorem kd108 : knd 108 = (0, 12) := rfl
theorem kd109 : knd 109 = (0, 12) := rfl
theorem kd110 : knd 110 = (0, 156) := rfl
theorem kd111 : knd 111 = (0, 64) := rfl
theorem kd112 : knd 112 = (0, 8) := rfl
theorem kd113 : knd 113 = (3, 1) := rfl
theorem kf0_0 {o : Nat} (h : knd o = (10, 14)) : knd (o + 1) = (0, 8) := by
  have a : ∀ i, i < 114 → knd i = (10, 14) → knd (i + 1) = (0, 8) := by decide +kernel
  exact a o (knd_lt h (by decide)) h
theorem kf0_1 {o : Nat} (h : knd o = (10, 14)) : knd (o + 2) = (0, 8) := by
  have a : ∀ i, i < 114 → knd i = (10, 14) → knd (i + 2) = (0, 8) := by decide +kernel
  exact a o (knd_lt h (by decide)) h
theorem kf0_2 {o : Nat} (h : knd o = (10, 14)) : knd (o + 3) = (0, 8) := by
  have a : ∀ i, i < 114 → knd i = (10, 14) → knd (i + 3) = (0, 8) := by decide +kernel
  exact a o (knd_lt h (by decide)) h
theorem kf0_3 {o : Nat} (h : knd o = (10, 14)) : knd (o + 4) = (0, 12) := by
  have a : ∀ i, i < 114 → knd i = (10, 14) → knd (i + 4) = (0, 12) := by decide +kernel
  exact a o (knd_lt h (by decide)) h
theorem kf0_4 {o : Nat} (h : knd o = (10, 14)) : knd (o + 5) = (0, 12) := by
  have a : ∀ i, i < 114 → knd i = (10, 14) → knd (i + 5) = (0, 12) := by decide +kernel
  exact a o (knd_lt h (by decide)) h
theorem kf0_5 {o : Nat} (h : knd o = (10, 14)) : knd (o + 6) = (0, 12) := by
  have a : ∀ i, i < 114 → knd i = (10, 14) → knd (i + 6) = (0, 12) := by decide +kernel
  exact a o (knd_lt h (by decide)) h
theorem kf0_6 {o : Nat} (h : knd o = (10, 14)) : knd (o + 7) = (0, 12) := by
  have a : ∀ i, i < 114 → knd i = (10, 14) → knd (i + 7) = (0, 12) := by decide +kernel
  exact a o (knd_lt h (by decide)) h
theorem kf0_7 {o : Nat} (h : knd o = (10, 14)) : knd (o + 8) = (17, 5) := by
  have a : ∀ i, i < 114 → knd i = (10, 14) → knd (i + 8) = (17, 5) := by decide +kernel
  exact a o (knd_lt h (by decide)) h
theorem kf1_0 {o : Nat} (h : knd o = (11, 14)) : knd (o + 1) = (0, 12) := by
  have a : ∀ i, i < 114 → knd i = (11, 14) → knd (i + 1) = (0, 12) := by decide +kernel
  exact a o (knd_lt h (by decide)) h
theorem kf1_1 {o : Nat} (h : knd o = (11, 14)) : knd (o + 2) = (0, 12) := by
  have a : ∀ i, i < 114 → knd i = (11, 14) → knd (i + 2) = (0, 12) := by decide +kernel
  exact a o (knd_lt h (by decide)) h
theorem kf1_2 {o : Nat} (h : knd o = (11, 14)) : knd (o + 3) = (0, 144) := by
  have a : ∀ i, i < 114 → knd i = (11, 14) → knd (i + 3) = (0, 144) := by decide +kernel
  exact a o (knd_lt h (by decide)) h
theorem kf1_3 {o : Nat} (h : knd o = (11, 14)) : knd (o + 4) = (0, 144) := by
  have a : ∀ i, i < 114 → knd i = (11, 14) → knd (i + 4) = (0, 144) := by decide +kernel
  exact a o (knd_lt h (by decide)) h
theorem kf1_4 {o : Nat} (h : knd o = (11, 14)) : knd (o + 5) = (0, 144) := by
  have a : ∀ i, i < 114 → knd i = (11, 14) → knd (i + 5) = (0, 144) := by decide +kernel
  exact a o (knd_lt h (by decide)) h
theorem kf1_5 {o : Nat} (h : knd o = (11, 14)) : knd (o + 6) = (0, 12) := by
  have a : ∀ i, i < 114 → knd i = (11, 14) → knd (i + 6) = (0, 12) := by decide +kernel
  exact a o (knd_lt h (by decide)) h
theorem kf1_6 {o : Nat} (h : knd o = (11, 14)) : knd (o + 7) = (0, 12) := by
  have a : ∀ i, i < 114 → knd i = (11, 14) → knd (i + 7) = (0, 12) := by decide +kernel
  exact a o (knd_lt h (by decide)) h
theorem kf1_7 {o : Nat} (h : knd o = (11, 14)) : knd (o + 8) = (0, 12) := by
  have a : ∀ i, i < 114 → knd i = (11, 14) → knd (i + 8) = (0, 12) := by decide +kernel
  exact a o (knd_lt h (by decide)) h
theorem kf1_8 {o : Nat} (h : knd o = (11, 14)) : knd (o + 9) = (0, 12) := by
  have a : ∀ i, i < 114 → knd i = (11, 14) → knd (i + 9) = (0, 12) := by decide +kernel
  exact a o (knd_lt h (by decide)) h
theorem kf4_0 {o : Nat} (h : knd o = (14, 3)) : knd (o + 1) = (0, 25) := by
  have a : ∀ i, i < 114 → knd i = (14, 3) → knd (i + 1) = (0, 25) := by decide +kernel
  exact a o (knd_lt h (by decide)) h
theorem kf4_1 {o : Nat} (h : knd o = (14, 3)) : knd (o + 2) = (0, 200) := by
  have a : ∀ i, i < 114 → knd i = (14, 3) → knd (i + 2) = (0, 200) := by decide +kernel
  exact a o (knd_lt h (by decide)) h
theorem kf5_0 {o : Nat} (h : knd o = (15, 4)) : knd (o + 1) = (0, 30) := by
  have a : ∀ i, i < 114 → knd i = (15, 4) → knd (i + 1) = (0, 30) := by decide +kernel
  exact a o (knd_lt h (by decide)) h
theorem kf5_1 {o : Nat} (h : knd o = (15, 4)) : knd (o + 2) = (0, 30) := by
  have a : ∀ i, i < 114 → knd i = (15, 4) → knd (i + 2) = (0, 30) := by decide +kernel
  exact a o (knd_lt h (by decide)) h
theorem kf5_2 {o : Nat} (h : knd o = (15, 4)) : knd (o + 3) = (0, 30) := by
  have a : ∀ i, i < 114 → knd i = (15, 4) → knd (i + 3) = (0, 30) := by decide +kernel
  exact a o (knd_lt h (by decide)) h
theorem kf6_0 {o : Nat} (h : knd o = (16, 2)) : knd (o + 1) = (0, 144) := by
  have a : ∀ i, i < 114 → knd i = (16, 2) → knd (i + 1) = (0, 144) := by decide +kernel
  exact a o (knd_lt h (by decide)) h
theorem kf6_1 {o : Nat} (h : knd o = (16, 2)) : knd (o + 2) = (0, 144) := by
  have a : ∀ i, i < 114 → knd i = (16, 2) → knd (i + 2) = (0, 144) := by decide +kernel
  exact a o (knd_lt h (by decide)) h
theorem kf7_0 {o : Nat} (h : knd o = (17, 5)) : knd (o + 1) = (0, 24) := by
  have a : ∀ i, i < 114 → knd i = (17, 5) → knd (i + 1) = (0, 24) := by decide +kernel
  exact a o (knd_lt h (by decide)) h
theorem kf7_1 {o : Nat} (h : knd o = (17, 5)) : knd (o + 2) = (0, 24) := by
  have a : ∀ i, i < 114 → knd i = (17, 5) → knd (i + 2) = (0, 24) := by decide +kernel
  exact a o (knd_lt h (by decide)) h
theorem kf7_2 {o : Nat} (h : knd o = (17, 5)) : knd (o + 3) = (0, 24) := by
  have a : ∀ i, i < 114 → knd i = (17, 5) → knd (i + 3) = (0, 24) := by decide +kernel
  exact a o (knd_lt h (by decide)) h
theorem kf7_3 {o : Nat} (h : knd o = (17, 5)) : knd (o + 4) = (0, 24) := by
  have a : ∀ i, i < 114 → knd i = (17, 5) → knd (i + 4) = (0, 24) := by decide +kernel
  exact a o (knd_lt h (by decide)) h
theorem kv_X0_clear : KV RX0 yX0_clear cX0_clear 1 none 0 := ⟨by decide +kernel, lwt3 (i := 3) (by decide +kernel) (by decide +kernel), lwt3 (i := 1) (by decide +kernel) (by decide +kernel), lwt3 (i := 2) (by decide +kernel) (by decide +kernel), lwt1 (i := 3) (by decide +kernel) (by decide +kernel)⟩
theorem kv_X0_hasMember : KV RX0 yX0_hasMember cX0_hasMember 2 (some .boolean) 1 := ⟨by decide +kernel, lwt3 (i := 138) (by decide +kernel) (by decide +kernel), lwt3 (i := 136) (by decide +kernel) (by decide +kernel), lwt3 (i := 137) (by decide +kernel) (by decide +kernel), lwt1 (i := 3) (by decide +kernel) (by decide +kernel)⟩
theorem kv_X0_hasPeriod : KV RX0 yX0_hasPeriod cX0_hasPeriod 2 (some .boolean) 1 := ⟨by decide +kernel, lwt3 (i := 110) (by decide +kernel) (by decide +kernel), lwt3 (i := 108) (by decide +kernel) (by decide +kernel), lwt3 (i := 109) (by decide +kernel) (by decide +kernel), lwt1 (i := 3) (by decide +kernel) (by decide +kernel)⟩
theorem kv_X0_find : KV RX0 yX0_find cX0_find 3 (some .int) 1 := ⟨by decide +kernel, lwt3 (i := 51) (by decide +kernel) (by decide +kernel), lwt3 (i := 49) (by decide +kernel) (by decide +kernel), lwt3 (i := 50) (by decide +kernel) (by decide +kernel), lwt1 (i := 3) (by decide +kernel) (by decide +kernel)⟩
theorem kv_X0_periodsOf : KV RX0 yX0_periodsOf cX0_periodsOf 4 (some .int) 1 := ⟨by decide +kernel, lwt5 (i := 54) (by decide +kernel) (by decide +kernel), lwt5 (i := 52) (by decide +kernel) (by decide +kernel), lwt5 (i := 53) (by decide +kernel) (by decide +kernel), lwt1 (i := 3) (by decide +kernel) (by decide +kernel)⟩
theorem kv_X0_signOf : KV RX0 yX0_signOf cX0_signOf 2 (some .int) 1 := ⟨by decide +kernel, lwt4 (i := 127) (by decide +kernel) (by decide +kernel), lwt4 (i := 125) (by decide +kernel) (by decide +kernel), lwt4 (i := 126) (by decide +kernel) (by decide +kernel), lwt1 (i := 3) (by decide +kernel) (by decide +kernel)⟩
theorem kv_X0_countSigned : KV RX0 yX0_countSigned cX0_countSigned 4 (some .int) 1 := ⟨by decide +kernel, lwt5 (i := 140) (by decide +kernel) (by decide +kernel), lwt5 (i := 138) (by decide +kernel) (by decide +kernel), lwt5 (i := 139) (by decide +kernel) (by decide +kernel), lwt1 (i := 3) (by decide +kernel) (by decide +kernel)⟩
theorem kv_X0_overlaps : KV RX0 yX0_overlaps cX0_overlaps 6 (some .boolean) 4 := ⟨by decide +kernel, lwt3 (i := 75) (by decide +kernel) (by decide +kernel), lwt3 (i := 73) (by decide +kernel) (by decide +kernel), lwt3 (i := 74) (by decide +kernel) (by decide +kernel), lwt1 (i := 3) (by decide +kernel) (by decide +kernel)⟩
theorem kv_X0_isOneMembers : KV RX0 yX0_isOneMembers cX0_isOneMembers 3 (some .boolean) 2 := ⟨by decide +kernel, lwt3 (i := 227) (by decide +kernel) (by decide +kernel), lwt3 (i := 225) (by decide +kernel) (by decide +kernel), lwt3 (i := 226) (by decide +kernel) (by decide +kernel), lwt1 (i := 3) (by decide +kernel) (by decide +kernel)⟩
theorem kv_X0_isBetween : KV RX0 yX0_isBetween cX0_isBetween 5 (some .boolean) 4 := ⟨by decide +kernel, lwt5 (i := 4) (by decide +kernel) (by decide +kernel), lwt5 (i := 2) (by decide +kernel) (by decide +kernel), lwt5 (i := 3) (by decide +kernel) (by decide +kernel), lwt1 (i := 3) (by decide +kernel) (by decide +kernel)⟩
theorem kv_X0_paidFor : KV RX0 yX0_paidFor cX0_paidFor 4 (some .int) 3 := ⟨by decide +kernel, lwt4 (i := 111) (by decide +kernel) (by decide +kernel), lwt4 (i := 109) (by decide +kernel) (by decide +kernel), lwt4 (i := 110) (by decide +kernel) (by decide +kernel), lwt1 (i := 3) (by decide +kernel) (by decide +kernel)⟩
theorem kv_X0_priceOf : KV RX0 yX0_priceOf cX0_priceOf 5 (some .int) 2 := ⟨by decide +kernel, lwt4 (i := 11) (by decide +kernel) (by decide +kernel), lwt4 (i := 9) (by decide +kernel) (by decide +kernel), lwt4 (i := 10) (by decide +kernel) (by decide +kernel), lwt1 (i := 3) (by decide +kernel) (by decide +kernel)⟩
theorem kv_X1_load : KV RX1 yX1_load cX1_load 9 none 4 := ⟨by decide +kernel, lwt4 (i := 123) (by decide +kernel) (by decide +kernel), lwt4 (i := 121) (by decide +kernel) (by decide +kernel), lwt4 (i := 122) (by decide +kernel) (by decide +kernel), lwt1 (i := 11) (by decide +kernel) (by decide +kernel)⟩
theorem kv_X1_isBetter : KV RX1 yX1_isBetter cX1_isBetter 4 (some .boolean) 3 := ⟨by decide +kernel, lwt4 (i := 150) (by decide +kernel) (by decide +kernel), lwt4 (i := 149) (by decide +kernel) (by decide +kernel), lwg_in (i := 31) (by decide +kernel) (by decide +kernel), lwt1 (i := 11) (by decide +kernel) (by decide +kernel)⟩
theorem kv_X1_improve : KV RX1 yX1_improve cX1_improve 6 (some .boolean) 3 := ⟨by decide +kernel, lwt4 (i := 146) (by decide +kernel) (by decide +kernel), lwt4 (i := 145) (by decide +kernel) (by decide +kernel), lwg_in (i := 30) (by decide +kernel) (by decide +kernel), lwt1 (i := 11) (by decide +kernel) (by decide +kernel)⟩
theorem kv_X1_improveAll : KV RX1 yX1_improveAll cX1_improveAll 5 (some .boolean) 0 := ⟨by decide +kernel, lwt4 (i := 142) (by decide +kernel) (by decide +kernel), lwt4 (i := 141) (by decide +kernel) (by decide +kernel), lwg_in (i := 29) (by decide +kernel) (by decide +kernel), lwt1 (i := 11) (by decide +kernel) (by decide +kernel)⟩
theorem kv_X1_measure : KV RX1 yX1_measure cX1_measure 3 none 0 := ⟨by decide +kernel, lwt4 (i := 138) (by decide +kernel) (by decide +kernel), lwt4 (i := 137) (by decide +kernel) (by decide +kernel), lwg_in (i := 28) (by decide +kernel) (by decide +kernel), lwt1 (i := 11) (by decide +kernel) (by decide +kernel)⟩
theorem kv_X1_passable : KV RX1 yX1_passable cX1_passable 4 (some .int) 2 := ⟨by decide +kernel, lwt4 (i := 162) (by decide +kernel) (by decide +kernel), lwt4 (i := 161) (by decide +kernel) (by decide +kernel), lwg_in (i := 34) (by decide +kernel) (by decide +kernel), lwt1 (i := 11) (by decide +kernel) (by decide +kernel)⟩
theorem kv_X1_followerOf : KV RX1 yX1_followerOf cX1_followerOf 5 (some .int) 1 := ⟨by decide +kernel, lwt4 (i := 158) (by decide +kernel) (by decide +kernel), lwt4 (i := 157) (by decide +kernel) (by decide +kernel), lwg_in (i := 33) (by decide +kernel) (by decide +kernel), lwt1 (i := 11) (by decide +kernel) (by decide +kernel)⟩
theorem kv_X1_findRoute : KV RX1 yX1_findRoute cX1_findRoute 4 (some .boolean) 0 := ⟨by decide +kernel, lwt4 (i := 154) (by decide +kernel) (by decide +kernel), lwt4 (i := 153) (by decide +kernel) (by decide +kernel), lwg_in (i := 32) (by decide +kernel) (by decide +kernel), lwt1 (i := 11) (by decide +kernel) (by decide +kernel)⟩
theorem kv_X1_takeRoute : KV RX1 yX1_takeRoute cX1_takeRoute 4 none 0 := ⟨by decide +kernel, lwt4 (i := 166) (by decide +kernel) (by decide +kernel), lwt4 (i := 165) (by decide +kernel) (by decide +kernel), lwg_in (i := 35) (by decide +kernel) (by decide +kernel), lwt1 (i := 11) (by decide +kernel) (by decide +kernel)⟩
theorem kv_X1_run : KV RX1 yX1_run cX1_run 3 none 0 := ⟨by decide +kernel, lwt4 (i := 133) (by decide +kernel) (by decide +kernel), lwt4 (i := 131) (by decide +kernel) (by decide +kernel), lwt4 (i := 132) (by decide +kernel) (by decide +kernel), lwt1 (i := 11) (by decide +kernel) (by decide +kernel)⟩
theorem kv_X1_totalPrice : KV RX1 yX1_totalPrice cX1_totalPrice 6 (some .long) 0 := ⟨by decide +kernel, lwt4 (i := 191) (by decide +kernel) (by decide +kernel), lwt4 (i := 189) (by decide +kernel) (by decide +kernel), lwt4 (i := 190) (by decide +kernel) (by decide +kernel), lwt1 (i := 11) (by decide +kernel) (by decide +kernel)⟩
theorem kv_X1_usedLinks : KV RX1 yX1_usedLinks cX1_usedLinks 3 (some .int) 0 := ⟨by decide +kernel, lwt4 (i := 195) (by decide +kernel) (by decide +kernel), lwt4 (i := 193) (by decide +kernel) (by decide +kernel), lwt4 (i := 194) (by decide +kernel) (by decide +kernel), lwt1 (i := 11) (by decide +kernel) (by decide +kernel)⟩
theorem kv_X1_neighboursOf : KV RX1 yX1_neighboursOf cX1_neighboursOf 4 (some .int) 1 := ⟨by decide +kernel, lwt4 (i := 207) (by decide +kernel) (by decide +kernel), lwt4 (i := 206) (by decide +kernel) (by decide +kernel), lwg_in (i := 36) (by decide +kernel) (by decide +kernel), lwt1 (i := 11) (by decide +kernel) (by decide +kernel)⟩
theorem kv_X1_reachedBits : KV RX1 yX1_reachedBits cX1_reachedBits 4 (some .int) 0 := ⟨by decide +kernel, lwt4 (i := 203) (by decide +kernel) (by decide +kernel), lwt4 (i := 201) (by decide +kernel) (by decide +kernel), lwt4 (i := 202) (by decide +kernel) (by decide +kernel), lwt1 (i := 11) (by decide +kernel) (by decide +kernel)⟩
theorem kv_X2_clear : KV RX2 yX2_clear cX2_clear 1 none 0 := ⟨by decide +kernel, lwt3 (i := 89) (by decide +kernel) (by decide +kernel), lwt3 (i := 87) (by decide +kernel) (by decide +kernel), lwt3 (i := 88) (by decide +kernel) (by decide +kernel), lwt1 (i := 6) (by decide +kernel) (by decide +kernel)⟩
theorem kv_X2_push : KV RX2 yX2_push cX2_push 7 none 5 := ⟨by decide +kernel, lwt4 (i := 52) (by decide +kernel) (by decide +kernel), lwt4 (i := 50) (by decide +kernel) (by decide +kernel), lwt4 (i := 51) (by decide +kernel) (by decide +kernel), lwt1 (i := 6) (by decide +kernel) (by decide +kernel)⟩
theorem kv_X2_pop : KV RX2 yX2_pop cX2_pop 1 (some .int) 0 := ⟨by decide +kernel, lwt5 (i := 118) (by decide +kernel) (by decide +kernel), lwt5 (i := 116) (by decide +kernel) (by decide +kernel), lwt5 (i := 117) (by decide +kernel) (by decide +kernel), lwt1 (i := 6) (by decide +kernel) (by decide +kernel)⟩
theorem kv_X4_addStart : KV RX4 yX4_addStart cX4_addStart 4 none 1 := ⟨by decide +kernel, lwt3 (i := 213) (by decide +kernel) (by decide +kernel), lwt3 (i := 212) (by decide +kernel) (by decide +kernel), lwg_in (i := 21) (by decide +kernel) (by decide +kernel), lwt1 (i := 9) (by decide +kernel) (by decide +kernel)⟩
theorem kv_X10_loadPercents : KV RX10 yX10_loadPercents cX10_loadPercents 5 none 2 := ⟨by decide +kernel, lwt3 (i := 149) (by decide +kernel) (by decide +kernel), lwt3 (i := 148) (by decide +kernel) (by decide +kernel), lwg_in (i := 17) (by decide +kernel) (by decide +kernel), lwt1 (i := 8) (by decide +kernel) (by decide +kernel)⟩
theorem kv_X10_loadParts : KV RX10 yX10_loadParts cX10_loadParts 6 none 1 := ⟨by decide +kernel, lwt3 (i := 153) (by decide +kernel) (by decide +kernel), lwt3 (i := 152) (by decide +kernel) (by decide +kernel), lwg_in (i := 18) (by decide +kernel) (by decide +kernel), lwt1 (i := 8) (by decide +kernel) (by decide +kernel)⟩
theorem kv_X10_load : KV RX10 yX10_load cX10_load 4 none 2 := ⟨by decide +kernel, lwt3 (i := 145) (by decide +kernel) (by decide +kernel), lwt3 (i := 143) (by decide +kernel) (by decide +kernel), lwt3 (i := 144) (by decide +kernel) (by decide +kernel), lwt1 (i := 8) (by decide +kernel) (by decide +kernel)⟩
theorem kv_X10_judge : KV RX10 yX10_judge cX10_judge 4 none 1 := ⟨by decide +kernel, lwt3 (i := 176) (by decide +kernel) (by decide +kernel), lwt3 (i := 174) (by decide +kernel) (by decide +kernel), lwt3 (i := 175) (by decide +kernel) (by decide +kernel), lwt1 (i := 8) (by decide +kernel) (by decide +kernel)⟩
theorem kv_X10_relativesOf : KV RX10 yX10_relativesOf cX10_relativesOf 4 (some .int) 1 := ⟨by decide +kernel, lwt3 (i := 184) (by decide +kernel) (by decide +kernel), lwt3 (i := 182) (by decide +kernel) (by decide +kernel), lwt3 (i := 183) (by decide +kernel) (by decide +kernel), lwt1 (i := 8) (by decide +kernel) (by decide +kernel)⟩
theorem kv_X4_fill : KV RX4 yX4_fill cX4_fill 6 none 3 := ⟨by decide +kernel, lwt3 (i := 209) (by decide +kernel) (by decide +kernel), lwt3 (i := 207) (by decide +kernel) (by decide +kernel), lwt3 (i := 208) (by decide +kernel) (by decide +kernel), lwt1 (i := 9) (by decide +kernel) (by decide +kernel)⟩
theorem kv_X4_endOf : KV RX4 yX4_endOf cX4_endOf 2 (some .int) 1 := ⟨by decide +kernel, lwt4 (i := 2) (by decide +kernel) (by decide +kernel), lwt4 (i := 1) (by decide +kernel) (by decide +kernel), lwg_in (i := 22) (by decide +kernel) (by decide +kernel), lwt1 (i := 9) (by decide +kernel) (by decide +kernel)⟩
theorem kv_X4_isTogether : KV RX4 yX4_isTogether cX4_isTogether 4 (some .boolean) 3 := ⟨by decide +kernel, lwt4 (i := 7) (by decide +kernel) (by decide +kernel), lwt4 (i := 6) (by decide +kernel) (by decide +kernel), lwg_in (i := 23) (by decide +kernel) (by decide +kernel), lwt1 (i := 9) (by decide +kernel) (by decide +kernel)⟩
theorem kv_X4_daysTogether : KV RX4 yX4_daysTogether cX4_daysTogether 9 (some .int) 4 := ⟨by decide +kernel, lwt3 (i := 237) (by decide +kernel) (by decide +kernel), lwt3 (i := 235) (by decide +kernel) (by decide +kernel), lwt3 (i := 236) (by decide +kernel) (by decide +kernel), lwt1 (i := 9) (by decide +kernel) (by decide +kernel)⟩
theorem kv_X4_firstDay : KV RX4 yX4_firstDay cX4_firstDay 4 (some .int) 2 := ⟨by decide +kernel, lwt4 (i := 17) (by decide +kernel) (by decide +kernel), lwt4 (i := 15) (by decide +kernel) (by decide +kernel), lwt4 (i := 16) (by decide +kernel) (by decide +kernel), lwt1 (i := 9) (by decide +kernel) (by decide +kernel)⟩
theorem kv_X4_lastDay : KV RX4 yX4_lastDay cX4_lastDay 4 (some .int) 2 := ⟨by decide +kernel, lwt4 (i := 21) (by decide +kernel) (by decide +kernel), lwt4 (i := 19) (by decide +kernel) (by decide +kernel), lwt4 (i := 20) (by decide +kernel) (by decide +kernel), lwt1 (i := 9) (by decide +kernel) (by decide +kernel)⟩
theorem kv_X5_clear : KV RX5 yX5_clear cX5_clear 1 none 0 := ⟨by decide +kernel, lwt3 (i := 85) (by decide +kernel) (by decide +kernel), lwt3 (i := 83) (by decide +kernel) (by decide +kernel), lwt3 (i := 84) (by decide +kernel) (by decide +kernel), lwt1 (i := 5) (by decide +kernel) (by decide +kernel)⟩
theorem kv_X5_has : KV RX5 yX5_has cX5_has 2 (some .boolean) 1 := ⟨by decide +kernel, lwt4 (i := 98) (by decide +kernel) (by decide +kernel), lwt4 (i := 96) (by decide +kernel) (by decide +kernel), lwt4 (i := 97) (by decide +kernel) (by decide +kernel), lwt1 (i := 5) (by decide +kernel) (by decide +kernel)⟩
theorem kv_X5_copy : KV RX5 yX5_copy cX5_copy 2 none 1 := ⟨by decide +kernel, lwt5 (i := 101) (by decide +kernel) (by decide +kernel), lwt5 (i := 99) (by decide +kernel) (by decide +kernel), lwt5 (i := 100) (by decide +kernel) (by decide +kernel), lwt1 (i := 5) (by decide +kernel) (by decide +kernel)⟩
theorem kv_X5_insert : KV RX5 yX5_insert cX5_insert 6 none 4 := ⟨by decide +kernel, lwt4 (i := 90) (by decide +kernel) (by decide +kernel), lwt4 (i := 88) (by decide +kernel) (by decide +kernel), lwt4 (i := 89) (by decide +kernel) (by decide +kernel), lwt1 (i := 5) (by decide +kernel) (by decide +kernel)⟩
theorem kv_X5_remove : KV RX5 yX5_remove cX5_remove 3 none 1 := ⟨by decide +kernel, lwt4 (i := 102) (by decide +kernel) (by decide +kernel), lwt4 (i := 100) (by decide +kernel) (by decide +kernel), lwt4 (i := 101) (by decide +kernel) (by decide +kernel), lwt1 (i := 5) (by decide +kernel) (by decide +kernel)⟩
theorem kv_X5_takenOf : KV RX5 yX5_takenOf cX5_takenOf 4 (some .int) 1 := ⟨by decide +kernel, lwt3 (i := 122) (by decide +kernel) (by decide +kernel), lwt3 (i := 120) (by decide +kernel) (by decide +kernel), lwt3 (i := 121) (by decide +kernel) (by decide +kernel), lwt1 (i := 5) (by decide +kernel) (by decide +kernel)⟩
theorem kv_X5_touches : KV RX5 yX5_touches cX5_touches 2 (some .boolean) 1 := ⟨by decide +kernel, lwt4 (i := 177) (by decide +kernel) (by decide +kernel), lwt4 (i := 175) (by decide +kernel) (by decide +kernel), lwt4 (i := 176) (by decide +kernel) (by decide +kernel), lwt1 (i := 5) (by decide +kernel) (by decide +kernel)⟩
theorem kv_X5_takenOn : KV RX5 yX5_takenOn cX5_takenOn 5 (some .int) 2 := ⟨by decide +kernel, lwt4 (i := 43) (by decide +kernel) (by decide +kernel), lwt4 (i := 41) (by decide +kernel) (by decide +kernel), lwt4 (i := 42) (by decide +kernel) (by decide +kernel), lwt1 (i := 5) (by decide +kernel) (by decide +kernel)⟩
theorem ks_X6_boundOf : KS RX6 yX6_boundOf cX6_boundOf 13 (some .int) 6 := ⟨by decide +kernel, lwt3 (i := 223) (by decide +kernel) (by decide +kernel), lwt3 (i := 222) (by decide +kernel) (by decide +kernel), lwt1 (i := 10) (by decide +kernel) (by decide +kernel)⟩
theorem kv_X6_fill : KV RX6 yX6_fill cX6_fill 8 none 4 := ⟨by decide +kernel, lwt3 (i := 220) (by decide +kernel) (by decide +kernel), lwt3 (i := 218) (by decide +kernel) (by decide +kernel), lwt3 (i := 219) (by decide +kernel) (by decide +kernel), lwt1 (i := 10) (by decide +kernel) (by decide +kernel)⟩
theorem kv_X7_add : KV RX7 yX7_add cX7_add 5 none 4 := ⟨by decide +kernel, lwt3 (i := 67) (by decide +kernel) (by decide +kernel), lwt3 (i := 65) (by decide +kernel) (by decide +kernel), lwt3 (i := 66) (by decide +kernel) (by decide +kernel), lwt1 (i := 4) (by decide +kernel) (by decide +kernel)⟩
theorem kv_X7_dropLast : KV RX7 yX7_dropLast cX7_dropLast 1 none 0 := ⟨by decide +kernel, lwt4 (i := 47) (by decide +kernel) (by decide +kernel), lwt4 (i := 45) (by decide +kernel) (by decide +kernel), lwt4 (i := 46) (by decide +kernel) (by decide +kernel), lwt1 (i := 4) (by decide +kernel) (by decide +kernel)⟩
theorem kv_X7_copy : KV RX7 yX7_copy cX7_copy 2 none 1 := ⟨by decide +kernel, lwt5 (i := 127) (by decide +kernel) (by decide +kernel), lwt5 (i := 125) (by decide +kernel) (by decide +kernel), lwt5 (i := 126) (by decide +kernel) (by decide +kernel), lwt1 (i := 4) (by decide +kernel) (by decide +kernel)⟩
theorem kv_X8_put : KV RX8 yX8_put cX8_put 3 none 1 := ⟨by decide +kernel, lwt2 (i := 231) (by decide +kernel) (by decide +kernel), lwt2 (i := 229) (by decide +kernel) (by decide +kernel), lwt2 (i := 230) (by decide +kernel) (by decide +kernel), lwt1 (i := 2) (by decide +kernel) (by decide +kernel)⟩
theorem kv_X8_sign : KV RX8 yX8_sign cX8_sign 1 (some .int) 0 := ⟨by decide +kernel, lwt3 (i := 11) (by decide +kernel) (by decide +kernel), lwt3 (i := 10) (by decide +kernel) (by decide +kernel), lwg_in (i := 1) (by decide +kernel) (by decide +kernel), lwt1 (i := 2) (by decide +kernel) (by decide +kernel)⟩
theorem ks_X8_isBlank : KS RX8 yX8_isBlank cX8_isBlank 1 (some .boolean) 1 := ⟨by decide +kernel, lwt3 (i := 14) (by decide +kernel) (by decide +kernel), lwt3 (i := 13) (by decide +kernel) (by decide +kernel), lwt1 (i := 2) (by decide +kernel) (by decide +kernel)⟩
theorem ks_X8_isLetter : KS RX8 yX8_isLetter cX8_isLetter 1 (some .boolean) 1 := ⟨by decide +kernel, lwt3 (i := 17) (by decide +kernel) (by decide +kernel), lwt3 (i := 16) (by decide +kernel) (by decide +kernel), lwt1 (i := 2) (by decide +kernel) (by decide +kernel)⟩
theorem kv_X8_readWord : KV RX8 yX8_readWord cX8_readWord 4 none 0 := ⟨by decide +kernel, lwt3 (i := 21) (by decide +kernel) (by decide +kernel), lwt3 (i := 20) (by decide +kernel) (by decide +kernel), lwg_in (i := 2) (by decide +kernel) (by decide +kernel), lwt1 (i := 2) (by decide +kernel) (by decide +kernel)⟩
theorem ks_X8_isDigit : KS RX8 yX8_isDigit cX8_isDigit 1 (some .boolean) 1 := ⟨by decide +kernel, lwt3 (i := 26) (by decide +kernel) (by decide +kernel), lwt3 (i := 25) (by decide +kernel) (by decide +kernel), lwt1 (i := 2) (by decide +kernel) (by decide +kernel)⟩
theorem kv_X8_readNumber : KV RX8 yX8_readNumber cX8_readNumber 4 none 0 := ⟨by decide +kernel, lwt3 (i := 30) (by decide +kernel) (by decide +kernel), lwt3 (i := 29) (by decide +kernel) (by decide +kernel), lwg_in (i := 3) (by decide +kernel) (by decide +kernel), lwt1 (i := 2) (by decide +kernel) (by decide +kernel)⟩
theorem kv_X8_next : KV RX8 yX8_next cX8_next 2 none 0 := ⟨by decide +kernel, lwt3 (i := 7) (by decide +kernel) (by decide +kernel), lwt3 (i := 6) (by decide +kernel) (by decide +kernel), lwg_in (i := 0) (by decide +kernel) (by decide +kernel), lwt1 (i := 2) (by decide +kernel) (by decide +kernel)⟩
theorem kv_X8_fail : KV RX8 yX8_fail cX8_fail 2 (some .boolean) 1 := ⟨by decide +kernel, lwt3 (i := 39) (by decide +kernel) (by decide +kernel), lwt3 (i := 38) (by decide +kernel) (by decide +kernel), lwg_in (i := 5) (by decide +kernel) (by decide +kernel), lwt1 (i := 2) (by decide +kernel) (by decide +kernel)⟩
theorem kv_X8_expect : KV RX8 yX8_expect cX8_expect 2 (some .boolean) 1 := ⟨by decide +kernel, lwt3 (i := 47) (by decide +kernel) (by decide +kernel), lwt3 (i := 46) (by decide +kernel) (by decide +kernel), lwg_in (i := 7) (by decide +kernel) (by decide +kernel), lwt1 (i := 2) (by decide +kernel) (by decide +kernel)⟩
theorem kv_X8_expectNumber : KV RX8 yX8_expectNumber cX8_expectNumber 3 (some .boolean) 2 := ⟨by decide +kernel, lwt3 (i := 55) (by decide +kernel) (by decide +kernel), lwt3 (i := 54) (by decide +kernel) (by decide +kernel), lwg_in (i := 8) (by decide +kernel) (by decide +kernel), lwt1 (i := 2) (by decide +kernel) (by decide +kernel)⟩
theorem kv_X8_readMember : KV RX8 yX8_readMember cX8_readMember 3 (some .boolean) 1 := ⟨by decide +kernel, lwt3 (i := 43) (by decide +kernel) (by decide +kernel), lwt3 (i := 42) (by decide +kernel) (by decide +kernel), lwg_in (i := 6) (by decide +kernel) (by decide +kernel), lwt1 (i := 2) (by decide +kernel) (by decide +kernel)⟩
theorem kv_X8_expectMember : KV RX8 yX8_expectMember cX8_expectMember 2 (some .boolean) 1 := ⟨by decide +kernel, lwt3 (i := 63) (by decide +kernel) (by decide +kernel), lwt3 (i := 62) (by decide +kernel) (by decide +kernel), lwg_in (i := 10) (by decide +kernel) (by decide +kernel), lwt1 (i := 2) (by decide +kernel) (by decide +kernel)⟩
theorem kv_X8_readOwns : KV RX8 yX8_readOwns cX8_readOwns 5 (some .boolean) 1 := ⟨by decide +kernel, lwt3 (i := 59) (by decide +kernel) (by decide +kernel), lwt3 (i := 58) (by decide +kernel) (by decide +kernel), lwg_in (i := 9) (by decide +kernel) (by decide +kernel), lwt1 (i := 2) (by decide +kernel) (by decide +kernel)⟩
theorem kv_X8_readPeriod : KV RX8 yX8_readPeriod cX8_readPeriod 3 (some .boolean) 1 := ⟨by decide +kernel, lwt3 (i := 71) (by decide +kernel) (by decide +kernel), lwt3 (i := 70) (by decide +kernel) (by decide +kernel), lwg_in (i := 11) (by decide +kernel) (by decide +kernel), lwt1 (i := 2) (by decide +kernel) (by decide +kernel)⟩
theorem kv_X8_readSetting : KV RX8 yX8_readSetting cX8_readSetting 3 (some .boolean) 2 := ⟨by decide +kernel, lwt3 (i := 81) (by decide +kernel) (by decide +kernel), lwt3 (i := 80) (by decide +kernel) (by decide +kernel), lwg_in (i := 12) (by decide +kernel) (by decide +kernel), lwt1 (i := 2) (by decide +kernel) (by decide +kernel)⟩
theorem kv_X8_readLine : KV RX8 yX8_readLine cX8_readLine 2 (some .boolean) 1 := ⟨by decide +kernel, lwt3 (i := 35) (by decide +kernel) (by decide +kernel), lwt3 (i := 34) (by decide +kernel) (by decide +kernel), lwg_in (i := 4) (by decide +kernel) (by decide +kernel), lwt1 (i := 2) (by decide +kernel) (by decide +kernel)⟩
theorem kv_X8_read : KV RX8 yX8_read cX8_read 4 (some .boolean) 2 := ⟨by decide +kernel, lwt2 (i := 239) (by decide +kernel) (by decide +kernel), lwt2 (i := 237) (by decide +kernel) (by decide +kernel), lwt2 (i := 238) (by decide +kernel) (by decide +kernel), lwt1 (i := 2) (by decide +kernel) (by decide +kernel)⟩
theorem kv_X9_pay : KV RX9 yX9_pay cX9_pay 4 none 3 := ⟨by decide +kernel, lwt5 (i := 38) (by decide +kernel) (by decide +kernel), lwt5 (i := 37) (by decide +kernel) (by decide +kernel), lwg_in (i := 43) (by decide +kernel) (by decide +kernel), lwt1 (i := 12) (by decide +kernel) (by decide +kernel)⟩
theorem kv_X9_run : KV RX9 yX9_run cX9_run 6 none 1 := ⟨by decide +kernel, lwt5 (i := 33) (by decide +kernel) (by decide +kernel), lwt5 (i := 31) (by decide +kernel) (by decide +kernel), lwt5 (i := 32) (by decide +kernel) (by decide +kernel), lwt1 (i := 12) (by decide +kernel) (by decide +kernel)⟩
theorem kv_X10_groupOf : KV RX10 yX10_groupOf cX10_groupOf 5 (some .int) 1 := ⟨by decide +kernel, lwt3 (i := 196) (by decide +kernel) (by decide +kernel), lwt3 (i := 195) (by decide +kernel) (by decide +kernel), lwg_in (i := 19) (by decide +kernel) (by decide +kernel), lwt1 (i := 8) (by decide +kernel) (by decide +kernel)⟩
theorem kv_X10_countGroups : KV RX10 yX10_countGroups cX10_countGroups 4 (some .int) 0 := ⟨by decide +kernel, lwt3 (i := 192) (by decide +kernel) (by decide +kernel), lwt3 (i := 190) (by decide +kernel) (by decide +kernel), lwt3 (i := 191) (by decide +kernel) (by decide +kernel), lwt1 (i := 8) (by decide +kernel) (by decide +kernel)⟩
theorem kv_X10_stepsBetween : KV RX10 yX10_stepsBetween cX10_stepsBetween 6 (some .int) 2 := ⟨by decide +kernel, lwt4 (i := 30) (by decide +kernel) (by decide +kernel), lwt4 (i := 28) (by decide +kernel) (by decide +kernel), lwt4 (i := 29) (by decide +kernel) (by decide +kernel), lwt1 (i := 8) (by decide +kernel) (by decide +kernel)⟩
theorem kv_X11_feed : KV RX11 yX11_feed cX11_feed 6 (some .int) 5 := ⟨by decide +kernel, lwt2 (i := 227) (by decide +kernel) (by decide +kernel), lwt2 (i := 225) (by decide +kernel) (by decide +kernel), lwt2 (i := 226) (by decide +kernel) (by decide +kernel), lwt1 (i := 1) (by decide +kernel) (by decide +kernel)⟩
theorem kv_X11_forgetNet : KV RX11 yX11_forgetNet cX11_forgetNet 1 none 0 := ⟨by decide +kernel, lwt3 (i := 93) (by decide +kernel) (by decide +kernel), lwt3 (i := 92) (by decide +kernel) (by decide +kernel), lwg_in (i := 13) (by decide +kernel) (by decide +kernel), lwt1 (i := 1) (by decide +kernel) (by decide +kernel)⟩
theorem kv_X11_text : KV RX11 yX11_text cX11_text 4 (some .int) 1 := ⟨by decide +kernel, lwt2 (i := 235) (by decide +kernel) (by decide +kernel), lwt2 (i := 233) (by decide +kernel) (by decide +kernel), lwt2 (i := 234) (by decide +kernel) (by decide +kernel), lwt1 (i := 1) (by decide +kernel) (by decide +kernel)⟩
theorem kv_X11_fault : KV RX11 yX11_fault cX11_fault 2 (some .int) 1 := ⟨by decide +kernel, lwt3 (i := 97) (by decide +kernel) (by decide +kernel), lwt3 (i := 95) (by decide +kernel) (by decide +kernel), lwt3 (i := 96) (by decide +kernel) (by decide +kernel), lwt1 (i := 1) (by decide +kernel) (by decide +kernel)⟩
theorem kv_X11_named : KV RX11 yX11_named cX11_named 2 (some .int) 1 := ⟨by decide +kernel, lwt3 (i := 101) (by decide +kernel) (by decide +kernel), lwt3 (i := 99) (by decide +kernel) (by decide +kernel), lwt3 (i := 100) (by decide +kernel) (by decide +kernel), lwt1 (i := 1) (by decide +kernel) (by decide +kernel)⟩
theorem kv_X11_openOf : KV RX11 yX11_openOf cX11_openOf 3 (some .int) 2 := ⟨by decide +kernel, lwt3 (i := 115) (by decide +kernel) (by decide +kernel), lwt3 (i := 114) (by decide +kernel) (by decide +kernel), lwg_in (i := 14) (by decide +kernel) (by decide +kernel), lwt1 (i := 1) (by decide +kernel) (by decide +kernel)⟩
theorem kv_X11_period : KV RX11 yX11_period cX11_period 3 (some .int) 2 := ⟨by decide +kernel, lwt3 (i := 106) (by decide +kernel) (by decide +kernel), lwt3 (i := 104) (by decide +kernel) (by decide +kernel), lwt3 (i := 105) (by decide +kernel) (by decide +kernel), lwt1 (i := 1) (by decide +kernel) (by decide +kernel)⟩
theorem kv_X11_areMembers : KV RX11 yX11_areMembers cX11_areMembers 3 (some .boolean) 2 := ⟨by decide +kernel, lwt3 (i := 134) (by decide +kernel) (by decide +kernel), lwt3 (i := 133) (by decide +kernel) (by decide +kernel), lwg_in (i := 16) (by decide +kernel) (by decide +kernel), lwt1 (i := 1) (by decide +kernel) (by decide +kernel)⟩
theorem kv_X11_isPair : KV RX11 yX11_isPair cX11_isPair 3 (some .boolean) 2 := ⟨by decide +kernel, lwt3 (i := 130) (by decide +kernel) (by decide +kernel), lwt3 (i := 129) (by decide +kernel) (by decide +kernel), lwg_in (i := 15) (by decide +kernel) (by decide +kernel), lwt1 (i := 1) (by decide +kernel) (by decide +kernel)⟩
theorem ks_X11_isDay : KS RX11 yX11_isDay cX11_isDay 1 (some .boolean) 1 := ⟨by decide +kernel, lwt3 (i := 141) (by decide +kernel) (by decide +kernel), lwt3 (i := 140) (by decide +kernel) (by decide +kernel), lwt1 (i := 1) (by decide +kernel) (by decide +kernel)⟩
theorem kv_X11_percent : KV RX11 yX11_percent cX11_percent 4 (some .int) 3 := ⟨by decide +kernel, lwt3 (i := 126) (by decide +kernel) (by decide +kernel), lwt3 (i := 124) (by decide +kernel) (by decide +kernel), lwt3 (i := 125) (by decide +kernel) (by decide +kernel), lwt1 (i := 1) (by decide +kernel) (by decide +kernel)⟩
theorem ks_X11_bitsOf : KS RX11 yX11_bitsOf cX11_bitsOf 4 (some .int) 1 := ⟨by decide +kernel, lwt3 (i := 161) (by decide +kernel) (by decide +kernel), lwt3 (i := 160) (by decide +kernel) (by decide +kernel), lwt1 (i := 1) (by decide +kernel) (by decide +kernel)⟩
theorem kv_X11_share : KV RX11 yX11_share cX11_share 4 (some .int) 3 := ⟨by decide +kernel, lwt3 (i := 158) (by decide +kernel) (by decide +kernel), lwt3 (i := 156) (by decide +kernel) (by decide +kernel), lwt3 (i := 157) (by decide +kernel) (by decide +kernel), lwt1 (i := 1) (by decide +kernel) (by decide +kernel)⟩
theorem kv_X11_parts : KV RX11 yX11_parts cX11_parts 6 (some .int) 3 := ⟨by decide +kernel, lwt3 (i := 166) (by decide +kernel) (by decide +kernel), lwt3 (i := 164) (by decide +kernel) (by decide +kernel), lwt3 (i := 165) (by decide +kernel) (by decide +kernel), lwt1 (i := 1) (by decide +kernel) (by decide +kernel)⟩
theorem kv_X11_controls : KV RX11 yX11_controls cX11_controls 4 (some .int) 3 := ⟨by decide +kernel, lwt3 (i := 172) (by decide +kernel) (by decide +kernel), lwt3 (i := 170) (by decide +kernel) (by decide +kernel), lwt3 (i := 171) (by decide +kernel) (by decide +kernel), lwt1 (i := 1) (by decide +kernel) (by decide +kernel)⟩
theorem kv_X11_related : KV RX11 yX11_related cX11_related 3 (some .int) 2 := ⟨by decide +kernel, lwt3 (i := 180) (by decide +kernel) (by decide +kernel), lwt3 (i := 178) (by decide +kernel) (by decide +kernel), lwt3 (i := 179) (by decide +kernel) (by decide +kernel), lwt1 (i := 1) (by decide +kernel) (by decide +kernel)⟩
theorem kv_X11_groups : KV RX11 yX11_groups cX11_groups 2 (some .int) 1 := ⟨by decide +kernel, lwt3 (i := 188) (by decide +kernel) (by decide +kernel), lwt3 (i := 186) (by decide +kernel) (by decide +kernel), lwt3 (i := 187) (by decide +kernel) (by decide +kernel), lwt1 (i := 1) (by decide +kernel) (by decide +kernel)⟩
theorem kv_X11_refreshNet : KV RX11 yX11_refreshNet cX11_refreshNet 1 none 0 := ⟨by decide +kernel, lwt3 (i := 205) (by decide +kernel) (by decide +kernel), lwt3 (i := 204) (by decide +kernel) (by decide +kernel), lwg_in (i := 20) (by decide +kernel) (by decide +kernel), lwt1 (i := 1) (by decide +kernel) (by decide +kernel)⟩
theorem kv_X11_days : KV RX11 yX11_days cX11_days 4 (some .int) 3 := ⟨by decide +kernel, lwt3 (i := 201) (by decide +kernel) (by decide +kernel), lwt3 (i := 199) (by decide +kernel) (by decide +kernel), lwt3 (i := 200) (by decide +kernel) (by decide +kernel), lwt1 (i := 1) (by decide +kernel) (by decide +kernel)⟩
theorem kv_X11_steps : KV RX11 yX11_steps cX11_steps 4 (some .int) 3 := ⟨by decide +kernel, lwt4 (i := 26) (by decide +kernel) (by decide +kernel), lwt4 (i := 24) (by decide +kernel) (by decide +kernel), lwt4 (i := 25) (by decide +kernel) (by decide +kernel), lwt1 (i := 1) (by decide +kernel) (by decide +kernel)⟩
theorem kv_X11_claimsExceedBounds : KV RX11 yX11_claimsExceedBounds cX11_claimsExceedBounds 4 (some .boolean) 0 := ⟨by decide +kernel, lwt4 (i := 39) (by decide +kernel) (by decide +kernel), lwt4 (i := 38) (by decide +kernel) (by decide +kernel), lwg_in (i := 24) (by decide +kernel) (by decide +kernel), lwt1 (i := 1) (by decide +kernel) (by decide +kernel)⟩
theorem kv_X11_own : KV RX11 yX11_own cX11_own 5 (some .int) 4 := ⟨by decide +kernel, lwt4 (i := 34) (by decide +kernel) (by decide +kernel), lwt4 (i := 32) (by decide +kernel) (by decide +kernel), lwt4 (i := 33) (by decide +kernel) (by decide +kernel), lwt1 (i := 1) (by decide +kernel) (by decide +kernel)⟩
theorem kv_X11_shared : KV RX11 yX11_shared cX11_shared 5 (some .int) 2 := ⟨by decide +kernel, lwt4 (i := 59) (by decide +kernel) (by decide +kernel), lwt4 (i := 57) (by decide +kernel) (by decide +kernel), lwt4 (i := 58) (by decide +kernel) (by decide +kernel), lwt1 (i := 1) (by decide +kernel) (by decide +kernel)⟩
theorem kv_X11_isLink : KV RX11 yX11_isLink cX11_isLink 3 (some .boolean) 2 := ⟨by decide +kernel, lwt4 (i := 69) (by decide +kernel) (by decide +kernel), lwt4 (i := 68) (by decide +kernel) (by decide +kernel), lwg_in (i := 25) (by decide +kernel) (by decide +kernel), lwt1 (i := 1) (by decide +kernel) (by decide +kernel)⟩
theorem kv_X11_bound : KV RX11 yX11_bound cX11_bound 3 (some .int) 2 := ⟨by decide +kernel, lwt4 (i := 65) (by decide +kernel) (by decide +kernel), lwt4 (i := 63) (by decide +kernel) (by decide +kernel), lwt4 (i := 64) (by decide +kernel) (by decide +kernel), lwt1 (i := 1) (by decide +kernel) (by decide +kernel)⟩
theorem kv_X11_room : KV RX11 yX11_room cX11_room 3 (some .int) 2 := ⟨by decide +kernel, lwt4 (i := 73) (by decide +kernel) (by decide +kernel), lwt4 (i := 71) (by decide +kernel) (by decide +kernel), lwt4 (i := 72) (by decide +kernel) (by decide +kernel), lwt1 (i := 1) (by decide +kernel) (by decide +kernel)⟩
theorem kv_X11_price : KV RX11 yX11_price cX11_price 3 (some .int) 2 := ⟨by decide +kernel, lwt4 (i := 77) (by decide +kernel) (by decide +kernel), lwt4 (i := 75) (by decide +kernel) (by decide +kernel), lwt4 (i := 76) (by decide +kernel) (by decide +kernel), lwt1 (i := 1) (by decide +kernel) (by decide +kernel)⟩
theorem kv_X11_enter : KV RX11 yX11_enter cX11_enter 6 (some .int) 4 := ⟨by decide +kernel, lwt4 (i := 85) (by decide +kernel) (by decide +kernel), lwt4 (i := 84) (by decide +kernel) (by decide +kernel), lwg_in (i := 26) (by decide +kernel) (by decide +kernel), lwt1 (i := 1) (by decide +kernel) (by decide +kernel)⟩
theorem kv_X11_claim : KV RX11 yX11_claim cX11_claim 5 (some .int) 3 := ⟨by decide +kernel, lwt4 (i := 81) (by decide +kernel) (by decide +kernel), lwt4 (i := 79) (by decide +kernel) (by decide +kernel), lwt4 (i := 80) (by decide +kernel) (by decide +kernel), lwt1 (i := 1) (by decide +kernel) (by decide +kernel)⟩
theorem kv_X11_withdraw : KV RX11 yX11_withdraw cX11_withdraw 3 (some .int) 1 := ⟨by decide +kernel, lwt4 (i := 94) (by decide +kernel) (by decide +kernel), lwt4 (i := 92) (by decide +kernel) (by decide +kernel), lwt4 (i := 93) (by decide +kernel) (by decide +kernel), lwt1 (i := 1) (by decide +kernel) (by decide +kernel)⟩
theorem kv_X11_claimed : KV RX11 yX11_claimed cX11_claimed 5 (some .int) 2 := ⟨by decide +kernel, lwt4 (i := 107) (by decide +kernel) (by decide +kernel), lwt4 (i := 105) (by decide +kernel) (by decide +kernel), lwt4 (i := 106) (by decide +kernel) (by decide +kernel), lwt1 (i := 1) (by decide +kernel) (by decide +kernel)⟩
theorem kv_X11_refreshFlow : KV RX11 yX11_refreshFlow cX11_refreshFlow 1 none 0 := ⟨by decide +kernel, lwt4 (i := 119) (by decide +kernel) (by decide +kernel), lwt4 (i := 118) (by decide +kernel) (by decide +kernel), lwg_in (i := 27) (by decide +kernel) (by decide +kernel), lwt1 (i := 1) (by decide +kernel) (by decide +kernel)⟩
theorem kv_X11_claimAll : KV RX11 yX11_claimAll cX11_claimAll 5 (some .int) 0 := ⟨by decide +kernel, lwt4 (i := 115) (by decide +kernel) (by decide +kernel), lwt4 (i := 113) (by decide +kernel) (by decide +kernel), lwt4 (i := 114) (by decide +kernel) (by decide +kernel), lwt1 (i := 1) (by decide +kernel) (by decide +kernel)⟩
theorem kv_X11_result : KV RX11 yX11_result cX11_result 3 (some .boolean) 2 := ⟨by decide +kernel, lwt4 (i := 172) (by decide +kernel) (by decide +kernel), lwt4 (i := 170) (by decide +kernel) (by decide +kernel), lwt4 (i := 171) (by decide +kernel) (by decide +kernel), lwt1 (i := 1) (by decide +kernel) (by decide +kernel)⟩
theorem kv_X11_relief : KV RX11 yX11_relief cX11_relief 3 (some .int) 2 := ⟨by decide +kernel, lwt4 (i := 182) (by decide +kernel) (by decide +kernel), lwt4 (i := 180) (by decide +kernel) (by decide +kernel), lwt4 (i := 181) (by decide +kernel) (by decide +kernel), lwt1 (i := 1) (by decide +kernel) (by decide +kernel)⟩
theorem kv_X11_solved : KV RX11 yX11_solved cX11_solved 2 (some .long) 1 := ⟨by decide +kernel, lwt4 (i := 186) (by decide +kernel) (by decide +kernel), lwt4 (i := 184) (by decide +kernel) (by decide +kernel), lwt4 (i := 185) (by decide +kernel) (by decide +kernel), lwt1 (i := 1) (by decide +kernel) (by decide +kernel)⟩
theorem kv_X11_reached : KV RX11 yX11_reached cX11_reached 1 (some .int) 0 := ⟨by decide +kernel, lwt4 (i := 199) (by decide +kernel) (by decide +kernel), lwt4 (i := 197) (by decide +kernel) (by decide +kernel), lwt4 (i := 198) (by decide +kernel) (by decide +kernel), lwt1 (i := 1) (by decide +kernel) (by decide +kernel)⟩
theorem kv_X11_left : KV RX11 yX11_left cX11_left 2 (some .int) 1 := ⟨by decide +kernel, lwt4 (i := 211) (by decide +kernel) (by decide +kernel), lwt4 (i := 209) (by decide +kernel) (by decide +kernel), lwt4 (i := 210) (by decide +kernel) (by decide +kernel), lwt1 (i := 1) (by decide +kernel) (by decide +kernel)⟩
theorem kv_X11_route : KV RX11 yX11_route cX11_route 2 (some .int) 1 := ⟨by decide +kernel, lwt4 (i := 215) (by decide +kernel) (by decide +kernel), lwt4 (i := 213) (by decide +kernel) (by decide +kernel), lwt4 (i := 214) (by decide +kernel) (by decide +kernel), lwt1 (i := 1) (by decide +kernel) (by decide +kernel)⟩
theorem kv_X11_dearest : KV RX11 yX11_dearest cX11_dearest 6 (some .int) 0 := ⟨by decide +kernel, lwt4 (i := 219) (by decide +kernel) (by decide +kernel), lwt4 (i := 217) (by decide +kernel) (by decide +kernel), lwt4 (i := 218) (by decide +kernel) (by decide +kernel), lwt1 (i := 1) (by decide +kernel) (by decide +kernel)⟩
theorem kv_X11_claimsOn : KV RX11 yX11_claimsOn cX11_claimsOn 4 (some .int) 1 := ⟨by decide +kernel, lwt4 (i := 227) (by decide +kernel) (by decide +kernel), lwt4 (i := 226) (by decide +kernel) (by decide +kernel), lwg_in (i := 37) (by decide +kernel) (by decide +kernel), lwt1 (i := 1) (by decide +kernel) (by decide +kernel)⟩
theorem kv_X11_reliefOn : KV RX11 yX11_reliefOn cX11_reliefOn 5 (some .int) 1 := ⟨by decide +kernel, lwt4 (i := 232) (by decide +kernel) (by decide +kernel), lwt4 (i := 231) (by decide +kernel) (by decide +kernel), lwg_in (i := 38) (by decide +kernel) (by decide +kernel), lwt1 (i := 1) (by decide +kernel) (by decide +kernel)⟩
theorem kv_X11_carried : KV RX11 yX11_carried cX11_carried 3 (some .int) 1 := ⟨by decide +kernel, lwt4 (i := 223) (by decide +kernel) (by decide +kernel), lwt4 (i := 221) (by decide +kernel) (by decide +kernel), lwt4 (i := 222) (by decide +kernel) (by decide +kernel), lwt1 (i := 1) (by decide +kernel) (by decide +kernel)⟩
theorem kv_X11_paidForRelief : KV RX11 yX11_paidForRelief cX11_paidForRelief 7 (some .int) 2 := ⟨by decide +kernel, lwt5 (i := 0) (by decide +kernel) (by decide +kernel), lwt4 (i := 239) (by decide +kernel) (by decide +kernel), lwg_in (i := 39) (by decide +kernel) (by decide +kernel), lwt1 (i := 1) (by decide +kernel) (by decide +kernel)⟩
theorem kv_X11_paidForClaims : KV RX11 yX11_paidForClaims cX11_paidForClaims 7 (some .int) 2 := ⟨by decide +kernel, lwt5 (i := 8) (by decide +kernel) (by decide +kernel), lwt5 (i := 7) (by decide +kernel) (by decide +kernel), lwg_in (i := 40) (by decide +kernel) (by decide +kernel), lwt1 (i := 1) (by decide +kernel) (by decide +kernel)⟩
theorem kv_X11_pays : KV RX11 yX11_pays cX11_pays 3 (some .int) 2 := ⟨by decide +kernel, lwt4 (i := 236) (by decide +kernel) (by decide +kernel), lwt4 (i := 234) (by decide +kernel) (by decide +kernel), lwt4 (i := 235) (by decide +kernel) (by decide +kernel), lwt1 (i := 1) (by decide +kernel) (by decide +kernel)⟩
theorem kv_X11_paidInAll : KV RX11 yX11_paidInAll cX11_paidInAll 3 (some .int) 2 := ⟨by decide +kernel, lwt5 (i := 17) (by decide +kernel) (by decide +kernel), lwt5 (i := 16) (by decide +kernel) (by decide +kernel), lwg_in (i := 41) (by decide +kernel) (by decide +kernel), lwt1 (i := 1) (by decide +kernel) (by decide +kernel)⟩
theorem kv_X11_balance : KV RX11 yX11_balance cX11_balance 2 (some .int) 1 := ⟨by decide +kernel, lwt5 (i := 12) (by decide +kernel) (by decide +kernel), lwt5 (i := 10) (by decide +kernel) (by decide +kernel), lwt5 (i := 11) (by decide +kernel) (by decide +kernel), lwt1 (i := 1) (by decide +kernel) (by decide +kernel)⟩
theorem kv_X11_owes : KV RX11 yX11_owes cX11_owes 3 (some .int) 2 := ⟨by decide +kernel, lwt5 (i := 21) (by decide +kernel) (by decide +kernel), lwt5 (i := 19) (by decide +kernel) (by decide +kernel), lwt5 (i := 20) (by decide +kernel) (by decide +kernel), lwt1 (i := 1) (by decide +kernel) (by decide +kernel)⟩
theorem kv_X11_settle : KV RX11 yX11_settle cX11_settle 2 none 0 := ⟨by decide +kernel, lwt5 (i := 29) (by decide +kernel) (by decide +kernel), lwt5 (i := 28) (by decide +kernel) (by decide +kernel), lwg_in (i := 42) (by decide +kernel) (by decide +kernel), lwt1 (i := 1) (by decide +kernel) (by decide +kernel)⟩
theorem kv_X11_settles : KV RX11 yX11_settles cX11_settles 1 (some .int) 0 := ⟨by decide +kernel, lwt5 (i := 25) (by decide +kernel) (by decide +kernel), lwt5 (i := 23) (by decide +kernel) (by decide +kernel), lwt5 (i := 24) (by decide +kernel) (by decide +kernel), lwt1 (i := 1) (by decide +kernel) (by decide +kernel)⟩
theorem kv_X11_settling : KV RX11 yX11_settling cX11_settling 3 (some .int) 2 := ⟨by decide +kernel, lwt5 (i := 42) (by decide +kernel) (by decide +kernel), lwt5 (i := 40) (by decide +kernel) (by decide +kernel), lwt5 (i := 41) (by decide +kernel) (by decide +kernel), lwt1 (i := 1) (by decide +kernel) (by decide +kernel)⟩
theorem kv_X11_tax : KV RX11 yX11_tax cX11_tax 4 (some .int) 1 := ⟨by decide +kernel, lwt5 (i := 46) (by decide +kernel) (by decide +kernel), lwt5 (i := 44) (by decide +kernel) (by decide +kernel), lwt5 (i := 45) (by decide +kernel) (by decide +kernel), lwt1 (i := 1) (by decide +kernel) (by decide +kernel)⟩
theorem kv_X11_without : KV RX11 yX11_without cX11_without 2 (some .int) 1 := ⟨by decide +kernel, lwt5 (i := 50) (by decide +kernel) (by decide +kernel), lwt5 (i := 48) (by decide +kernel) (by decide +kernel), lwt5 (i := 49) (by decide +kernel) (by decide +kernel), lwt1 (i := 1) (by decide +kernel) (by decide +kernel)⟩
theorem kv_X11_gainByRoom : KV RX11 yX11_gainByRoom cX11_gainByRoom 5 (some .int) 3 := ⟨by decide +kernel, lwt5 (i := 62) (by decide +kernel) (by decide +kernel), lwt5 (i := 61) (by decide +kernel) (by decide +kernel), lwg_in (i := 44) (by decide +kernel) (by decide +kernel), lwt1 (i := 1) (by decide +kernel) (by decide +kernel)⟩
theorem kv_X11_worth : KV RX11 yX11_worth cX11_worth 4 (some .int) 3 := ⟨by decide +kernel, lwt5 (i := 58) (by decide +kernel) (by decide +kernel), lwt5 (i := 56) (by decide +kernel) (by decide +kernel), lwt5 (i := 57) (by decide +kernel) (by decide +kernel), lwt1 (i := 1) (by decide +kernel) (by decide +kernel)⟩
theorem kv_X11_lack : KV RX11 yX11_lack cX11_lack 4 (some .int) 3 := ⟨by decide +kernel, lwt5 (i := 66) (by decide +kernel) (by decide +kernel), lwt5 (i := 64) (by decide +kernel) (by decide +kernel), lwt5 (i := 65) (by decide +kernel) (by decide +kernel), lwt1 (i := 1) (by decide +kernel) (by decide +kernel)⟩
theorem kv_X11_reliefWithoutClaims : KV RX11 yX11_reliefWithoutClaims cX11_reliefWithoutClaims 4 (some .int) 3 := ⟨by decide +kernel, lwt5 (i := 74) (by decide +kernel) (by decide +kernel), lwt5 (i := 73) (by decide +kernel) (by decide +kernel), lwg_in (i := 45) (by decide +kernel) (by decide +kernel), lwt1 (i := 1) (by decide +kernel) (by decide +kernel)⟩
theorem kv_X11_byCarry : KV RX11 yX11_byCarry cX11_byCarry 2 (some .int) 1 := ⟨by decide +kernel, lwt5 (i := 70) (by decide +kernel) (by decide +kernel), lwt5 (i := 68) (by decide +kernel) (by decide +kernel), lwt5 (i := 69) (by decide +kernel) (by decide +kernel), lwt1 (i := 1) (by decide +kernel) (by decide +kernel)⟩
theorem kv_X11_reliefByGate : KV RX11 yX11_reliefByGate cX11_reliefByGate 2 (some .int) 1 := ⟨by decide +kernel, lwt5 (i := 82) (by decide +kernel) (by decide +kernel), lwt5 (i := 81) (by decide +kernel) (by decide +kernel), lwg_in (i := 46) (by decide +kernel) (by decide +kernel), lwt1 (i := 1) (by decide +kernel) (by decide +kernel)⟩
theorem kv_X11_byGate : KV RX11 yX11_byGate cX11_byGate 2 (some .int) 1 := ⟨by decide +kernel, lwt5 (i := 78) (by decide +kernel) (by decide +kernel), lwt5 (i := 76) (by decide +kernel) (by decide +kernel), lwt5 (i := 77) (by decide +kernel) (by decide +kernel), lwt1 (i := 1) (by decide +kernel) (by decide +kernel)⟩
theorem kv_X11_gateFor : KV RX11 yX11_gateFor cX11_gateFor 6 (some .int) 1 := ⟨by decide +kernel, lwt5 (i := 86) (by decide +kernel) (by decide +kernel), lwt5 (i := 84) (by decide +kernel) (by decide +kernel), lwt5 (i := 85) (by decide +kernel) (by decide +kernel), lwt1 (i := 1) (by decide +kernel) (by decide +kernel)⟩
theorem kv_X11_ifFirst : KV RX11 yX11_ifFirst cX11_ifFirst 3 (some .int) 2 := ⟨by decide +kernel, lwt5 (i := 91) (by decide +kernel) (by decide +kernel), lwt5 (i := 89) (by decide +kernel) (by decide +kernel), lwt5 (i := 90) (by decide +kernel) (by decide +kernel), lwt1 (i := 1) (by decide +kernel) (by decide +kernel)⟩
theorem ks_X11_nextNumber : KS RX11 yX11_nextNumber cX11_nextNumber 1 (some .int) 1 := ⟨by decide +kernel, lwt5 (i := 105) (by decide +kernel) (by decide +kernel), lwt5 (i := 104) (by decide +kernel) (by decide +kernel), lwt1 (i := 1) (by decide +kernel) (by decide +kernel)⟩
theorem ks_X11_drawn : KS RX11 yX11_drawn cX11_drawn 2 (some .int) 2 := ⟨by decide +kernel, lwt5 (i := 110) (by decide +kernel) (by decide +kernel), lwt5 (i := 109) (by decide +kernel) (by decide +kernel), lwt1 (i := 1) (by decide +kernel) (by decide +kernel)⟩
theorem kv_X11_chance : KV RX11 yX11_chance cX11_chance 10 (some .int) 3 := ⟨by decide +kernel, lwt5 (i := 97) (by decide +kernel) (by decide +kernel), lwt5 (i := 95) (by decide +kernel) (by decide +kernel), lwt5 (i := 96) (by decide +kernel) (by decide +kernel), lwt1 (i := 1) (by decide +kernel) (by decide +kernel)⟩
theorem kv_X11_undo : KV RX11 yX11_undo cX11_undo 3 (some .int) 0 := ⟨by decide +kernel, lwt5 (i := 114) (by decide +kernel) (by decide +kernel), lwt5 (i := 112) (by decide +kernel) (by decide +kernel), lwt5 (i := 113) (by decide +kernel) (by decide +kernel), lwt1 (i := 1) (by decide +kernel) (by decide +kernel)⟩
theorem kv_X11_keep : KV RX11 yX11_keep cX11_keep 1 (some .int) 0 := ⟨by decide +kernel, lwt5 (i := 123) (by decide +kernel) (by decide +kernel), lwt5 (i := 121) (by decide +kernel) (by decide +kernel), lwt5 (i := 122) (by decide +kernel) (by decide +kernel), lwt1 (i := 1) (by decide +kernel) (by decide +kernel)⟩
theorem kv_X11_back : KV RX11 yX11_back cX11_back 1 (some .int) 0 := ⟨by decide +kernel, lwt5 (i := 132) (by decide +kernel) (by decide +kernel), lwt5 (i := 130) (by decide +kernel) (by decide +kernel), lwt5 (i := 131) (by decide +kernel) (by decide +kernel), lwt1 (i := 1) (by decide +kernel) (by decide +kernel)⟩
theorem kv_X11_count : KV RX11 yX11_count cX11_count 2 (some .int) 1 := ⟨by decide +kernel, lwt5 (i := 136) (by decide +kernel) (by decide +kernel), lwt5 (i := 134) (by decide +kernel) (by decide +kernel), lwt5 (i := 135) (by decide +kernel) (by decide +kernel), lwt1 (i := 1) (by decide +kernel) (by decide +kernel)⟩
theorem kv_X12_thrown : KV RX12 yX12_thrown cX12_thrown 1 (some .int) 0 := ⟨by decide +kernel, lwt6 (i := 162) (by decide +kernel) (by decide +kernel), lwt6 (i := 160) (by decide +kernel) (by decide +kernel), lwt6 (i := 161) (by decide +kernel) (by decide +kernel), lwt1 (i := 13) (by decide +kernel) (by decide +kernel)⟩
theorem kv_X12_feed : KV RX12 yX12_feed cX12_feed 8 (some .int) 5 := ⟨by decide +kernel, lwt6 (i := 166) (by decide +kernel) (by decide +kernel), lwt6 (i := 164) (by decide +kernel) (by decide +kernel), lwt6 (i := 165) (by decide +kernel) (by decide +kernel), lwt1 (i := 13) (by decide +kernel) (by decide +kernel)⟩
theorem ks_X12_isIn : KS RX12 yX12_isIn cX12_isIn 3 (some .boolean) 3 := ⟨by decide +kernel, lwt6 (i := 218) (by decide +kernel) (by decide +kernel), lwt6 (i := 217) (by decide +kernel) (by decide +kernel), lwt1 (i := 13) (by decide +kernel) (by decide +kernel)⟩
theorem kv_X12_wrong : KV RX12 yX12_wrong cX12_wrong 2 (some .boolean) 1 := ⟨by decide +kernel, lwt6 (i := 199) (by decide +kernel) (by decide +kernel), lwt6 (i := 198) (by decide +kernel) (by decide +kernel), lwg_in (i := 57) (by decide +kernel) (by decide +kernel), lwt1 (i := 13) (by decide +kernel) (by decide +kernel)⟩
theorem kv_X12_wordAt : KV RX12 yX12_wordAt cX12_wordAt 8 (some .int) 2 := ⟨by decide +kernel, lwt6 (i := 182) (by decide +kernel) (by decide +kernel), lwt6 (i := 181) (by decide +kernel) (by decide +kernel), lwg_in (i := 53) (by decide +kernel) (by decide +kernel), lwt1 (i := 13) (by decide +kernel) (by decide +kernel)⟩
theorem kv_X12_isSmall : KV RX12 yX12_isSmall cX12_isSmall 2 (some .boolean) 1 := ⟨by decide +kernel, lwt6 (i := 178) (by decide +kernel) (by decide +kernel), lwt6 (i := 177) (by decide +kernel) (by decide +kernel), lwg_in (i := 52) (by decide +kernel) (by decide +kernel), lwt1 (i := 13) (by decide +kernel) (by decide +kernel)⟩
theorem kv_X12_isDigit : KV RX12 yX12_isDigit cX12_isDigit 2 (some .boolean) 1 := ⟨by decide +kernel, lwt6 (i := 190) (by decide +kernel) (by decide +kernel), lwt6 (i := 189) (by decide +kernel) (by decide +kernel), lwg_in (i := 55) (by decide +kernel) (by decide +kernel), lwt1 (i := 13) (by decide +kernel) (by decide +kernel)⟩
theorem kv_X12_packed : KV RX12 yX12_packed cX12_packed 5 (some .int) 2 := ⟨by decide +kernel, lwt6 (i := 186) (by decide +kernel) (by decide +kernel), lwt6 (i := 185) (by decide +kernel) (by decide +kernel), lwg_in (i := 54) (by decide +kernel) (by decide +kernel), lwt1 (i := 13) (by decide +kernel) (by decide +kernel)⟩
theorem kv_X12_token : KV RX12 yX12_token cX12_token 1 none 0 := ⟨by decide +kernel, lwt6 (i := 174) (by decide +kernel) (by decide +kernel), lwt6 (i := 173) (by decide +kernel) (by decide +kernel), lwg_in (i := 51) (by decide +kernel) (by decide +kernel), lwt1 (i := 13) (by decide +kernel) (by decide +kernel)⟩
theorem kv_X12_plain : KV RX12 yX12_plain cX12_plain 1 none 0 := ⟨by decide +kernel, lwt6 (i := 2) (by decide +kernel) (by decide +kernel), lwt6 (i := 1) (by decide +kernel) (by decide +kernel), lwg_in (i := 48) (by decide +kernel) (by decide +kernel), lwt1 (i := 13) (by decide +kernel) (by decide +kernel)⟩
theorem ks_X12_copies : KS RX12 yX12_copies cX12_copies 3 none 2 := ⟨by decide +kernel, lwt6 (i := 9) (by decide +kernel) (by decide +kernel), lwt6 (i := 8) (by decide +kernel) (by decide +kernel), lwt1 (i := 13) (by decide +kernel) (by decide +kernel)⟩
theorem kv_X12_lay : KV RX12 yX12_lay cX12_lay 3 none 2 := ⟨by decide +kernel, lwt6 (i := 13) (by decide +kernel) (by decide +kernel), lwt6 (i := 12) (by decide +kernel) (by decide +kernel), lwg_in (i := 50) (by decide +kernel) (by decide +kernel), lwt1 (i := 13) (by decide +kernel) (by decide +kernel)⟩
theorem kv_X12_keepText : KV RX12 yX12_keepText cX12_keepText 2 none 0 := ⟨by decide +kernel, lwt6 (i := 6) (by decide +kernel) (by decide +kernel), lwt6 (i := 5) (by decide +kernel) (by decide +kernel), lwg_in (i := 49) (by decide +kernel) (by decide +kernel), lwt1 (i := 13) (by decide +kernel) (by decide +kernel)⟩
theorem kv_X12_nameAt : KV RX12 yX12_nameAt cX12_nameAt 5 (some .int) 3 := ⟨by decide +kernel, lwt6 (i := 207) (by decide +kernel) (by decide +kernel), lwt6 (i := 206) (by decide +kernel) (by decide +kernel), lwg_in (i := 59) (by decide +kernel) (by decide +kernel), lwt1 (i := 13) (by decide +kernel) (by decide +kernel)⟩
theorem kv_X12_signed : KV RX12 yX12_signed cX12_signed 3 (some .boolean) 2 := ⟨by decide +kernel, lwt6 (i := 215) (by decide +kernel) (by decide +kernel), lwt6 (i := 214) (by decide +kernel) (by decide +kernel), lwg_in (i := 61) (by decide +kernel) (by decide +kernel), lwt1 (i := 13) (by decide +kernel) (by decide +kernel)⟩
theorem kv_X12_number : KV RX12 yX12_number cX12_number 3 (some .boolean) 2 := ⟨by decide +kernel, lwt6 (i := 211) (by decide +kernel) (by decide +kernel), lwt6 (i := 210) (by decide +kernel) (by decide +kernel), lwg_in (i := 60) (by decide +kernel) (by decide +kernel), lwt1 (i := 13) (by decide +kernel) (by decide +kernel)⟩
theorem kv_X12_memberRead : KV RX12 yX12_memberRead cX12_memberRead 1 (some .boolean) 0 := ⟨by decide +kernel, lwt6 (i := 226) (by decide +kernel) (by decide +kernel), lwt6 (i := 225) (by decide +kernel) (by decide +kernel), lwg_in (i := 63) (by decide +kernel) (by decide +kernel), lwt1 (i := 13) (by decide +kernel) (by decide +kernel)⟩
theorem kv_X12_memberLine : KV RX12 yX12_memberLine cX12_memberLine 2 (some .boolean) 0 := ⟨by decide +kernel, lwt6 (i := 203) (by decide +kernel) (by decide +kernel), lwt6 (i := 202) (by decide +kernel) (by decide +kernel), lwg_in (i := 58) (by decide +kernel) (by decide +kernel), lwt1 (i := 13) (by decide +kernel) (by decide +kernel)⟩
theorem kv_X12_ownsLine : KV RX12 yX12_ownsLine cX12_ownsLine 2 (some .boolean) 0 := ⟨by decide +kernel, lwt6 (i := 222) (by decide +kernel) (by decide +kernel), lwt6 (i := 221) (by decide +kernel) (by decide +kernel), lwg_in (i := 62) (by decide +kernel) (by decide +kernel), lwt1 (i := 13) (by decide +kernel) (by decide +kernel)⟩
theorem kv_X12_periodLine : KV RX12 yX12_periodLine cX12_periodLine 3 (some .boolean) 0 := ⟨by decide +kernel, lwt6 (i := 230) (by decide +kernel) (by decide +kernel), lwt6 (i := 229) (by decide +kernel) (by decide +kernel), lwg_in (i := 64) (by decide +kernel) (by decide +kernel), lwt1 (i := 13) (by decide +kernel) (by decide +kernel)⟩
theorem kv_X12_wordLine : KV RX12 yX12_wordLine cX12_wordLine 2 (some .boolean) 0 := ⟨by decide +kernel, lwt6 (i := 235) (by decide +kernel) (by decide +kernel), lwt6 (i := 234) (by decide +kernel) (by decide +kernel), lwg_in (i := 65) (by decide +kernel) (by decide +kernel), lwt1 (i := 13) (by decide +kernel) (by decide +kernel)⟩
theorem kv_X12_lineRead : KV RX12 yX12_lineRead cX12_lineRead 2 (some .boolean) 0 := ⟨by decide +kernel, lwt6 (i := 195) (by decide +kernel) (by decide +kernel), lwt6 (i := 194) (by decide +kernel) (by decide +kernel), lwg_in (i := 56) (by decide +kernel) (by decide +kernel), lwt1 (i := 13) (by decide +kernel) (by decide +kernel)⟩
theorem kv_X12_text : KV RX12 yX12_text cX12_text 3 (some .int) 1 := ⟨by decide +kernel, lwt6 (i := 170) (by decide +kernel) (by decide +kernel), lwt6 (i := 168) (by decide +kernel) (by decide +kernel), lwt6 (i := 169) (by decide +kernel) (by decide +kernel), lwt1 (i := 13) (by decide +kernel) (by decide +kernel)⟩
theorem kv_X12_fault : KV RX12 yX12_fault cX12_fault 2 (some .int) 1 := ⟨by decide +kernel, lwt6 (i := 239) (by decide +kernel) (by decide +kernel), lwt6 (i := 237) (by decide +kernel) (by decide +kernel), lwt6 (i := 238) (by decide +kernel) (by decide +kernel), lwt1 (i := 13) (by decide +kernel) (by decide +kernel)⟩
theorem kv_X12_named : KV RX12 yX12_named cX12_named 2 (some .int) 1 := ⟨by decide +kernel, lwt7 (i := 3) (by decide +kernel) (by decide +kernel), lwt7 (i := 1) (by decide +kernel) (by decide +kernel), lwt7 (i := 2) (by decide +kernel) (by decide +kernel), lwt1 (i := 13) (by decide +kernel) (by decide +kernel)⟩
theorem kv_X12_of : KV RX12 yX12_of cX12_of 2 (some .int) 1 := ⟨by decide +kernel, lwt7 (i := 19) (by decide +kernel) (by decide +kernel), lwt7 (i := 18) (by decide +kernel) (by decide +kernel), lwg_in (i := 67) (by decide +kernel) (by decide +kernel), lwt1 (i := 13) (by decide +kernel) (by decide +kernel)⟩
theorem kv_X12_copyBank : KV RX12 yX12_copyBank cX12_copyBank 4 none 2 := ⟨by decide +kernel, lwt7 (i := 11) (by decide +kernel) (by decide +kernel), lwt7 (i := 10) (by decide +kernel) (by decide +kernel), lwg_in (i := 66) (by decide +kernel) (by decide +kernel), lwt1 (i := 13) (by decide +kernel) (by decide +kernel)⟩
theorem kv_X12_canUndo : KV RX12 yX12_canUndo cX12_canUndo 2 none 0 := ⟨by decide +kernel, lwt7 (i := 108) (by decide +kernel) (by decide +kernel), lwt7 (i := 107) (by decide +kernel) (by decide +kernel), lwg_in (i := 87) (by decide +kernel) (by decide +kernel), lwt1 (i := 13) (by decide +kernel) (by decide +kernel)⟩
theorem kv_X12_undo : KV RX12 yX12_undo cX12_undo 1 (some .int) 0 := ⟨by decide +kernel, lwt7 (i := 7) (by decide +kernel) (by decide +kernel), lwt7 (i := 5) (by decide +kernel) (by decide +kernel), lwt7 (i := 6) (by decide +kernel) (by decide +kernel), lwt1 (i := 13) (by decide +kernel) (by decide +kernel)⟩
theorem kv_X12_keep : KV RX12 yX12_keep cX12_keep 1 (some .int) 0 := ⟨by decide +kernel, lwt7 (i := 15) (by decide +kernel) (by decide +kernel), lwt7 (i := 13) (by decide +kernel) (by decide +kernel), lwt7 (i := 14) (by decide +kernel) (by decide +kernel), lwt1 (i := 13) (by decide +kernel) (by decide +kernel)⟩
theorem kv_X12_back : KV RX12 yX12_back cX12_back 1 (some .int) 0 := ⟨by decide +kernel, lwt7 (i := 23) (by decide +kernel) (by decide +kernel), lwt7 (i := 21) (by decide +kernel) (by decide +kernel), lwt7 (i := 22) (by decide +kernel) (by decide +kernel), lwt1 (i := 13) (by decide +kernel) (by decide +kernel)⟩
theorem kv_X12_isMember : KV RX12 yX12_isMember cX12_isMember 2 (some .boolean) 1 := ⟨by decide +kernel, lwt7 (i := 181) (by decide +kernel) (by decide +kernel), lwt7 (i := 180) (by decide +kernel) (by decide +kernel), lwg_in (i := 100) (by decide +kernel) (by decide +kernel), lwt1 (i := 13) (by decide +kernel) (by decide +kernel)⟩
theorem kv_X12_isPeriod : KV RX12 yX12_isPeriod cX12_isPeriod 2 (some .boolean) 1 := ⟨by decide +kernel, lwt7 (i := 35) (by decide +kernel) (by decide +kernel), lwt7 (i := 34) (by decide +kernel) (by decide +kernel), lwg_in (i := 69) (by decide +kernel) (by decide +kernel), lwt1 (i := 13) (by decide +kernel) (by decide +kernel)⟩
theorem ks_X12_isDay : KS RX12 yX12_isDay cX12_isDay 1 (some .boolean) 1 := ⟨by decide +kernel, lwt7 (i := 184) (by decide +kernel) (by decide +kernel), lwt7 (i := 183) (by decide +kernel) (by decide +kernel), lwt1 (i := 13) (by decide +kernel) (by decide +kernel)⟩
theorem kv_X12_memberOf : KV RX12 yX12_memberOf cX12_memberOf 2 (some .int) 1 := ⟨by decide +kernel, lwt7 (i := 47) (by decide +kernel) (by decide +kernel), lwt7 (i := 46) (by decide +kernel) (by decide +kernel), lwg_in (i := 72) (by decide +kernel) (by decide +kernel), lwt1 (i := 13) (by decide +kernel) (by decide +kernel)⟩
theorem kv_X12_result : KV RX12 yX12_result cX12_result 2 (some .int) 1 := ⟨by decide +kernel, lwt7 (i := 39) (by decide +kernel) (by decide +kernel), lwt7 (i := 38) (by decide +kernel) (by decide +kernel), lwg_in (i := 70) (by decide +kernel) (by decide +kernel), lwt1 (i := 13) (by decide +kernel) (by decide +kernel)⟩
theorem kv_X12_percentOf : KV RX12 yX12_percentOf cX12_percentOf 7 (some .int) 3 := ⟨by decide +kernel, lwt7 (i := 67) (by decide +kernel) (by decide +kernel), lwt7 (i := 66) (by decide +kernel) (by decide +kernel), lwg_in (i := 77) (by decide +kernel) (by decide +kernel), lwt1 (i := 13) (by decide +kernel) (by decide +kernel)⟩
theorem kv_X12_laysShares : KV RX12 yX12_laysShares cX12_laysShares 6 none 1 := ⟨by decide +kernel, lwt7 (i := 63) (by decide +kernel) (by decide +kernel), lwt7 (i := 62) (by decide +kernel) (by decide +kernel), lwg_in (i := 76) (by decide +kernel) (by decide +kernel), lwt1 (i := 13) (by decide +kernel) (by decide +kernel)⟩
theorem kv_X12_isControl : KV RX12 yX12_isControl cX12_isControl 4 (some .boolean) 3 := ⟨by decide +kernel, lwt7 (i := 76) (by decide +kernel) (by decide +kernel), lwt7 (i := 75) (by decide +kernel) (by decide +kernel), lwg_in (i := 79) (by decide +kernel) (by decide +kernel), lwt1 (i := 13) (by decide +kernel) (by decide +kernel)⟩
theorem kv_X12_areRelated : KV RX12 yX12_areRelated cX12_areRelated 5 (some .boolean) 3 := ⟨by decide +kernel, lwt7 (i := 72) (by decide +kernel) (by decide +kernel), lwt7 (i := 71) (by decide +kernel) (by decide +kernel), lwg_in (i := 78) (by decide +kernel) (by decide +kernel), lwt1 (i := 13) (by decide +kernel) (by decide +kernel)⟩
theorem kv_X12_laysStretches : KV RX12 yX12_laysStretches cX12_laysStretches 6 none 1 := ⟨by decide +kernel, lwt7 (i := 59) (by decide +kernel) (by decide +kernel), lwt7 (i := 58) (by decide +kernel) (by decide +kernel), lwg_in (i := 75) (by decide +kernel) (by decide +kernel), lwt1 (i := 13) (by decide +kernel) (by decide +kernel)⟩
theorem kv_X12_daysOf : KV RX12 yX12_daysOf cX12_daysOf 9 (some .int) 4 := ⟨by decide +kernel, lwt7 (i := 92) (by decide +kernel) (by decide +kernel), lwt7 (i := 91) (by decide +kernel) (by decide +kernel), lwg_in (i := 83) (by decide +kernel) (by decide +kernel), lwt1 (i := 13) (by decide +kernel) (by decide +kernel)⟩
theorem kv_X12_firstDay : KV RX12 yX12_firstDay cX12_firstDay 2 (some .int) 1 := ⟨by decide +kernel, lwt7 (i := 51) (by decide +kernel) (by decide +kernel), lwt7 (i := 50) (by decide +kernel) (by decide +kernel), lwg_in (i := 73) (by decide +kernel) (by decide +kernel), lwt1 (i := 13) (by decide +kernel) (by decide +kernel)⟩
theorem kv_X12_lastDay : KV RX12 yX12_lastDay cX12_lastDay 2 (some .int) 1 := ⟨by decide +kernel, lwt7 (i := 55) (by decide +kernel) (by decide +kernel), lwt7 (i := 54) (by decide +kernel) (by decide +kernel), lwg_in (i := 74) (by decide +kernel) (by decide +kernel), lwt1 (i := 13) (by decide +kernel) (by decide +kernel)⟩
theorem kv_X12_sharedOf : KV RX12 yX12_sharedOf cX12_sharedOf 5 (some .int) 2 := ⟨by decide +kernel, lwt7 (i := 88) (by decide +kernel) (by decide +kernel), lwt7 (i := 87) (by decide +kernel) (by decide +kernel), lwg_in (i := 82) (by decide +kernel) (by decide +kernel), lwt1 (i := 13) (by decide +kernel) (by decide +kernel)⟩
theorem kv_X12_isCarry : KV RX12 yX12_isCarry cX12_isCarry 3 (some .boolean) 2 := ⟨by decide +kernel, lwt7 (i := 43) (by decide +kernel) (by decide +kernel), lwt7 (i := 42) (by decide +kernel) (by decide +kernel), lwg_in (i := 71) (by decide +kernel) (by decide +kernel), lwt1 (i := 13) (by decide +kernel) (by decide +kernel)⟩
theorem kv_X12_isLink : KV RX12 yX12_isLink cX12_isLink 3 (some .boolean) 2 := ⟨by decide +kernel, lwt7 (i := 31) (by decide +kernel) (by decide +kernel), lwt7 (i := 30) (by decide +kernel) (by decide +kernel), lwg_in (i := 68) (by decide +kernel) (by decide +kernel), lwt1 (i := 13) (by decide +kernel) (by decide +kernel)⟩
theorem kv_X12_boundOf : KV RX12 yX12_boundOf cX12_boundOf 8 (some .int) 2 := ⟨by decide +kernel, lwt7 (i := 84) (by decide +kernel) (by decide +kernel), lwt7 (i := 83) (by decide +kernel) (by decide +kernel), lwg_in (i := 81) (by decide +kernel) (by decide +kernel), lwt1 (i := 13) (by decide +kernel) (by decide +kernel)⟩
theorem kv_X12_priceOf : KV RX12 yX12_priceOf cX12_priceOf 5 (some .int) 2 := ⟨by decide +kernel, lwt7 (i := 153) (by decide +kernel) (by decide +kernel), lwt7 (i := 152) (by decide +kernel) (by decide +kernel), lwg_in (i := 95) (by decide +kernel) (by decide +kernel), lwt1 (i := 13) (by decide +kernel) (by decide +kernel)⟩
theorem kv_X12_claimedOf : KV RX12 yX12_claimedOf cX12_claimedOf 5 (some .int) 1 := ⟨by decide +kernel, lwt7 (i := 104) (by decide +kernel) (by decide +kernel), lwt7 (i := 103) (by decide +kernel) (by decide +kernel), lwg_in (i := 86) (by decide +kernel) (by decide +kernel), lwt1 (i := 13) (by decide +kernel) (by decide +kernel)⟩
theorem kv_X12_claimedBy : KV RX12 yX12_claimedBy cX12_claimedBy 5 (some .int) 2 := ⟨by decide +kernel, lwt7 (i := 96) (by decide +kernel) (by decide +kernel), lwt7 (i := 95) (by decide +kernel) (by decide +kernel), lwg_in (i := 84) (by decide +kernel) (by decide +kernel), lwt1 (i := 13) (by decide +kernel) (by decide +kernel)⟩
theorem kv_X12_openOf : KV RX12 yX12_openOf cX12_openOf 2 (some .int) 1 := ⟨by decide +kernel, lwt7 (i := 100) (by decide +kernel) (by decide +kernel), lwt7 (i := 99) (by decide +kernel) (by decide +kernel), lwg_in (i := 85) (by decide +kernel) (by decide +kernel), lwt1 (i := 13) (by decide +kernel) (by decide +kernel)⟩
theorem kv_X12_laysAll : KV RX12 yX12_laysAll cX12_laysAll 6 none 2 := ⟨by decide +kernel, lwt7 (i := 141) (by decide +kernel) (by decide +kernel), lwt7 (i := 140) (by decide +kernel) (by decide +kernel), lwg_in (i := 92) (by decide +kernel) (by decide +kernel), lwt1 (i := 13) (by decide +kernel) (by decide +kernel)⟩
theorem kv_X12_isBetter : KV RX12 yX12_isBetter cX12_isBetter 6 (some .boolean) 4 := ⟨by decide +kernel, lwt7 (i := 161) (by decide +kernel) (by decide +kernel), lwt7 (i := 160) (by decide +kernel) (by decide +kernel), lwg_in (i := 97) (by decide +kernel) (by decide +kernel), lwt1 (i := 13) (by decide +kernel) (by decide +kernel)⟩
theorem kv_X12_goes : KV RX12 yX12_goes cX12_goes 5 (some .boolean) 3 := ⟨by decide +kernel, lwt7 (i := 157) (by decide +kernel) (by decide +kernel), lwt7 (i := 156) (by decide +kernel) (by decide +kernel), lwg_in (i := 96) (by decide +kernel) (by decide +kernel), lwt1 (i := 13) (by decide +kernel) (by decide +kernel)⟩
theorem kv_X12_laysRoutes : KV RX12 yX12_laysRoutes cX12_laysRoutes 4 none 0 := ⟨by decide +kernel, lwt7 (i := 149) (by decide +kernel) (by decide +kernel), lwt7 (i := 148) (by decide +kernel) (by decide +kernel), lwg_in (i := 94) (by decide +kernel) (by decide +kernel), lwt1 (i := 13) (by decide +kernel) (by decide +kernel)⟩
theorem kv_X12_isAhead : KV RX12 yX12_isAhead cX12_isAhead 4 (some .boolean) 2 := ⟨by decide +kernel, lwt7 (i := 169) (by decide +kernel) (by decide +kernel), lwt7 (i := 168) (by decide +kernel) (by decide +kernel), lwg_in (i := 99) (by decide +kernel) (by decide +kernel), lwt1 (i := 13) (by decide +kernel) (by decide +kernel)⟩
theorem kv_X12_bestEnd : KV RX12 yX12_bestEnd cX12_bestEnd 3 (some .int) 0 := ⟨by decide +kernel, lwt7 (i := 165) (by decide +kernel) (by decide +kernel), lwt7 (i := 164) (by decide +kernel) (by decide +kernel), lwg_in (i := 98) (by decide +kernel) (by decide +kernel), lwt1 (i := 13) (by decide +kernel) (by decide +kernel)⟩
theorem kv_X12_relieves : KV RX12 yX12_relieves cX12_relieves 10 (some .int) 0 := ⟨by decide +kernel, lwt7 (i := 145) (by decide +kernel) (by decide +kernel), lwt7 (i := 144) (by decide +kernel) (by decide +kernel), lwg_in (i := 93) (by decide +kernel) (by decide +kernel), lwt1 (i := 13) (by decide +kernel) (by decide +kernel)⟩
theorem kv_X12_solves : KV RX12 yX12_solves cX12_solves 1 (some .int) 0 := ⟨by decide +kernel, lwt7 (i := 137) (by decide +kernel) (by decide +kernel), lwt7 (i := 136) (by decide +kernel) (by decide +kernel), lwg_in (i := 91) (by decide +kernel) (by decide +kernel), lwt1 (i := 13) (by decide +kernel) (by decide +kernel)⟩
theorem kv_X12_canClaim : KV RX12 yX12_canClaim cX12_canClaim 4 (some .boolean) 3 := ⟨by decide +kernel, lwt7 (i := 80) (by decide +kernel) (by decide +kernel), lwt7 (i := 79) (by decide +kernel) (by decide +kernel), lwg_in (i := 80) (by decide +kernel) (by decide +kernel), lwt1 (i := 13) (by decide +kernel) (by decide +kernel)⟩
theorem kv_X12_claims : KV RX12 yX12_claims cX12_claims 5 none 3 := ⟨by decide +kernel, lwt7 (i := 112) (by decide +kernel) (by decide +kernel), lwt7 (i := 111) (by decide +kernel) (by decide +kernel), lwg_in (i := 88) (by decide +kernel) (by decide +kernel), lwt1 (i := 13) (by decide +kernel) (by decide +kernel)⟩
theorem kv_X12_claim : KV RX12 yX12_claim cX12_claim 4 (some .int) 3 := ⟨by decide +kernel, lwt7 (i := 27) (by decide +kernel) (by decide +kernel), lwt7 (i := 25) (by decide +kernel) (by decide +kernel), lwt7 (i := 26) (by decide +kernel) (by decide +kernel), lwt1 (i := 13) (by decide +kernel) (by decide +kernel)⟩
theorem kv_X12_isClaim : KV RX12 yX12_isClaim cX12_isClaim 2 (some .boolean) 1 := ⟨by decide +kernel, lwt7 (i := 120) (by decide +kernel) (by decide +kernel), lwt7 (i := 119) (by decide +kernel) (by decide +kernel), lwg_in (i := 89) (by decide +kernel) (by decide +kernel), lwt1 (i := 13) (by decide +kernel) (by decide +kernel)⟩
theorem kv_X12_withdraw : KV RX12 yX12_withdraw cX12_withdraw 4 (some .int) 1 := ⟨by decide +kernel, lwt7 (i := 116) (by decide +kernel) (by decide +kernel), lwt7 (i := 114) (by decide +kernel) (by decide +kernel), lwt7 (i := 115) (by decide +kernel) (by decide +kernel), lwt1 (i := 13) (by decide +kernel) (by decide +kernel)⟩
theorem kv_X12_paid : KV RX12 yX12_paid cX12_paid 4 (some .int) 3 := ⟨by decide +kernel, lwt7 (i := 128) (by decide +kernel) (by decide +kernel), lwt7 (i := 127) (by decide +kernel) (by decide +kernel), lwg_in (i := 90) (by decide +kernel) (by decide +kernel), lwt1 (i := 13) (by decide +kernel) (by decide +kernel)⟩
theorem kv_X12_claimed : KV RX12 yX12_claimed cX12_claimed 4 (some .int) 2 := ⟨by decide +kernel, lwt7 (i := 124) (by decide +kernel) (by decide +kernel), lwt7 (i := 122) (by decide +kernel) (by decide +kernel), lwt7 (i := 123) (by decide +kernel) (by decide +kernel), lwt1 (i := 13) (by decide +kernel) (by decide +kernel)⟩
theorem kv_X12_claimAll : KV RX12 yX12_claimAll cX12_claimAll 3 (some .int) 0 := ⟨by decide +kernel, lwt7 (i := 133) (by decide +kernel) (by decide +kernel), lwt7 (i := 131) (by decide +kernel) (by decide +kernel), lwt7 (i := 132) (by decide +kernel) (by decide +kernel), lwt1 (i := 13) (by decide +kernel) (by decide +kernel)⟩
theorem kv_X12_result_ : KV RX12 yX12_result_ cX12_result_ 3 (some .boolean) 2 := ⟨by decide +kernel, lwt7 (i := 173) (by decide +kernel) (by decide +kernel), lwt7 (i := 171) (by decide +kernel) (by decide +kernel), lwt7 (i := 172) (by decide +kernel) (by decide +kernel), lwt1 (i := 13) (by decide +kernel) (by decide +kernel)⟩
theorem kv_X12_owned : KV RX12 yX12_owned cX12_owned 6 none 4 := ⟨by decide +kernel, lwt7 (i := 188) (by decide +kernel) (by decide +kernel), lwt7 (i := 187) (by decide +kernel) (by decide +kernel), lwg_in (i := 101) (by decide +kernel) (by decide +kernel), lwt1 (i := 13) (by decide +kernel) (by decide +kernel)⟩
theorem kv_X12_own : KV RX12 yX12_own cX12_own 9 (some .int) 4 := ⟨by decide +kernel, lwt7 (i := 177) (by decide +kernel) (by decide +kernel), lwt7 (i := 175) (by decide +kernel) (by decide +kernel), lwt7 (i := 176) (by decide +kernel) (by decide +kernel), lwt1 (i := 13) (by decide +kernel) (by decide +kernel)⟩
theorem kv_X12_fails : KV RX12 yX12_fails cX12_fails 2 (some .int) 1 := ⟨by decide +kernel, lwt7 (i := 196) (by decide +kernel) (by decide +kernel), lwt7 (i := 195) (by decide +kernel) (by decide +kernel), lwg_in (i := 102) (by decide +kernel) (by decide +kernel), lwt1 (i := 13) (by decide +kernel) (by decide +kernel)⟩
theorem kv_X12_member : KV RX12 yX12_member cX12_member 5 (some .int) 2 := ⟨by decide +kernel, lwt7 (i := 192) (by decide +kernel) (by decide +kernel), lwt7 (i := 190) (by decide +kernel) (by decide +kernel), lwt7 (i := 191) (by decide +kernel) (by decide +kernel), lwt1 (i := 13) (by decide +kernel) (by decide +kernel)⟩
theorem kv_X12_period : KV RX12 yX12_period cX12_period 3 (some .int) 2 := ⟨by decide +kernel, lwt7 (i := 200) (by decide +kernel) (by decide +kernel), lwt7 (i := 198) (by decide +kernel) (by decide +kernel), lwt7 (i := 199) (by decide +kernel) (by decide +kernel), lwt1 (i := 13) (by decide +kernel) (by decide +kernel)⟩
theorem kv_X12_areMembers : KV RX12 yX12_areMembers cX12_areMembers 3 (some .boolean) 2 := ⟨by decide +kernel, lwt7 (i := 209) (by decide +kernel) (by decide +kernel), lwt7 (i := 208) (by decide +kernel) (by decide +kernel), lwg_in (i := 103) (by decide +kernel) (by decide +kernel), lwt1 (i := 13) (by decide +kernel) (by decide +kernel)⟩
theorem kv_X12_percent : KV RX12 yX12_percent cX12_percent 4 (some .int) 3 := ⟨by decide +kernel, lwt7 (i := 205) (by decide +kernel) (by decide +kernel), lwt7 (i := 203) (by decide +kernel) (by decide +kernel), lwt7 (i := 204) (by decide +kernel) (by decide +kernel), lwt1 (i := 13) (by decide +kernel) (by decide +kernel)⟩
theorem kv_X12_share : KV RX12 yX12_share cX12_share 4 (some .int) 3 := ⟨by decide +kernel, lwt7 (i := 213) (by decide +kernel) (by decide +kernel), lwt7 (i := 211) (by decide +kernel) (by decide +kernel), lwt7 (i := 212) (by decide +kernel) (by decide +kernel), lwt1 (i := 13) (by decide +kernel) (by decide +kernel)⟩
theorem kv_X12_parts : KV RX12 yX12_parts cX12_parts 4 (some .int) 3 := ⟨by decide +kernel, lwt7 (i := 227) (by decide +kernel) (by decide +kernel), lwt7 (i := 225) (by decide +kernel) (by decide +kernel), lwt7 (i := 226) (by decide +kernel) (by decide +kernel), lwt1 (i := 13) (by decide +kernel) (by decide +kernel)⟩
theorem kv_X12_controls : KV RX12 yX12_controls cX12_controls 4 (some .int) 3 := ⟨by decide +kernel, lwt7 (i := 233) (by decide +kernel) (by decide +kernel), lwt7 (i := 231) (by decide +kernel) (by decide +kernel), lwt7 (i := 232) (by decide +kernel) (by decide +kernel), lwt1 (i := 13) (by decide +kernel) (by decide +kernel)⟩
theorem kv_X12_relatedTo : KV RX12 yX12_relatedTo cX12_relatedTo 4 (some .int) 1 := ⟨by decide +kernel, lwt8 (i := 1) (by decide +kernel) (by decide +kernel), lwt8 (i := 0) (by decide +kernel) (by decide +kernel), lwg_in (i := 104) (by decide +kernel) (by decide +kernel), lwt1 (i := 13) (by decide +kernel) (by decide +kernel)⟩
theorem kv_X12_related : KV RX12 yX12_related cX12_related 3 (some .int) 2 := ⟨by decide +kernel, lwt7 (i := 237) (by decide +kernel) (by decide +kernel), lwt7 (i := 235) (by decide +kernel) (by decide +kernel), lwt7 (i := 236) (by decide +kernel) (by decide +kernel), lwt1 (i := 13) (by decide +kernel) (by decide +kernel)⟩
theorem kv_X12_groups : KV RX12 yX12_groups cX12_groups 8 (some .int) 1 := ⟨by decide +kernel, lwt8 (i := 5) (by decide +kernel) (by decide +kernel), lwt8 (i := 3) (by decide +kernel) (by decide +kernel), lwt8 (i := 4) (by decide +kernel) (by decide +kernel), lwt1 (i := 13) (by decide +kernel) (by decide +kernel)⟩
theorem kv_X12_shared : KV RX12 yX12_shared cX12_shared 3 (some .int) 2 := ⟨by decide +kernel, lwt8 (i := 9) (by decide +kernel) (by decide +kernel), lwt8 (i := 7) (by decide +kernel) (by decide +kernel), lwt8 (i := 8) (by decide +kernel) (by decide +kernel), lwt1 (i := 13) (by decide +kernel) (by decide +kernel)⟩
theorem kv_X12_bound : KV RX12 yX12_bound cX12_bound 3 (some .int) 2 := ⟨by decide +kernel, lwt8 (i := 13) (by decide +kernel) (by decide +kernel), lwt8 (i := 11) (by decide +kernel) (by decide +kernel), lwt8 (i := 12) (by decide +kernel) (by decide +kernel), lwt1 (i := 13) (by decide +kernel) (by decide +kernel)⟩
theorem kv_X12_room : KV RX12 yX12_room cX12_room 3 (some .int) 2 := ⟨by decide +kernel, lwt8 (i := 17) (by decide +kernel) (by decide +kernel), lwt8 (i := 15) (by decide +kernel) (by decide +kernel), lwt8 (i := 16) (by decide +kernel) (by decide +kernel), lwt1 (i := 13) (by decide +kernel) (by decide +kernel)⟩
theorem kv_X12_price : KV RX12 yX12_price cX12_price 3 (some .int) 2 := ⟨by decide +kernel, lwt8 (i := 21) (by decide +kernel) (by decide +kernel), lwt8 (i := 19) (by decide +kernel) (by decide +kernel), lwt8 (i := 20) (by decide +kernel) (by decide +kernel), lwt1 (i := 13) (by decide +kernel) (by decide +kernel)⟩
theorem kv_X12_relief : KV RX12 yX12_relief cX12_relief 3 (some .int) 2 := ⟨by decide +kernel, lwt8 (i := 25) (by decide +kernel) (by decide +kernel), lwt8 (i := 23) (by decide +kernel) (by decide +kernel), lwt8 (i := 24) (by decide +kernel) (by decide +kernel), lwt1 (i := 13) (by decide +kernel) (by decide +kernel)⟩
theorem kv_X12_solved : KV RX12 yX12_solved cX12_solved 7 (some .long) 1 := ⟨by decide +kernel, lwt8 (i := 29) (by decide +kernel) (by decide +kernel), lwt8 (i := 27) (by decide +kernel) (by decide +kernel), lwt8 (i := 28) (by decide +kernel) (by decide +kernel), lwt1 (i := 13) (by decide +kernel) (by decide +kernel)⟩
theorem kv_X12_reached : KV RX12 yX12_reached cX12_reached 3 (some .int) 0 := ⟨by decide +kernel, lwt8 (i := 34) (by decide +kernel) (by decide +kernel), lwt8 (i := 32) (by decide +kernel) (by decide +kernel), lwt8 (i := 33) (by decide +kernel) (by decide +kernel), lwt1 (i := 13) (by decide +kernel) (by decide +kernel)⟩
theorem kv_X12_left : KV RX12 yX12_left cX12_left 2 (some .int) 1 := ⟨by decide +kernel, lwt8 (i := 38) (by decide +kernel) (by decide +kernel), lwt8 (i := 36) (by decide +kernel) (by decide +kernel), lwt8 (i := 37) (by decide +kernel) (by decide +kernel), lwt1 (i := 13) (by decide +kernel) (by decide +kernel)⟩
theorem kv_X12_pays : KV RX12 yX12_pays cX12_pays 6 (some .int) 2 := ⟨by decide +kernel, lwt8 (i := 42) (by decide +kernel) (by decide +kernel), lwt8 (i := 40) (by decide +kernel) (by decide +kernel), lwt8 (i := 41) (by decide +kernel) (by decide +kernel), lwt1 (i := 13) (by decide +kernel) (by decide +kernel)⟩
theorem kv_X12_laysBalances : KV RX12 yX12_laysBalances cX12_laysBalances 3 none 0 := ⟨by decide +kernel, lwt8 (i := 51) (by decide +kernel) (by decide +kernel), lwt8 (i := 50) (by decide +kernel) (by decide +kernel), lwg_in (i := 105) (by decide +kernel) (by decide +kernel), lwt1 (i := 13) (by decide +kernel) (by decide +kernel)⟩
theorem kv_X12_balance : KV RX12 yX12_balance cX12_balance 2 (some .int) 1 := ⟨by decide +kernel, lwt8 (i := 46) (by decide +kernel) (by decide +kernel), lwt8 (i := 44) (by decide +kernel) (by decide +kernel), lwt8 (i := 45) (by decide +kernel) (by decide +kernel), lwt1 (i := 13) (by decide +kernel) (by decide +kernel)⟩
theorem kv_X12_owes : KV RX12 yX12_owes cX12_owes 3 (some .int) 2 := ⟨by decide +kernel, lwt8 (i := 55) (by decide +kernel) (by decide +kernel), lwt8 (i := 53) (by decide +kernel) (by decide +kernel), lwt8 (i := 54) (by decide +kernel) (by decide +kernel), lwt1 (i := 13) (by decide +kernel) (by decide +kernel)⟩
theorem kv_X12_settlesOne : KV RX12 yX12_settlesOne cX12_settlesOne 2 (some .boolean) 0 := ⟨by decide +kernel, lwt8 (i := 63) (by decide +kernel) (by decide +kernel), lwt8 (i := 62) (by decide +kernel) (by decide +kernel), lwg_in (i := 106) (by decide +kernel) (by decide +kernel), lwt1 (i := 13) (by decide +kernel) (by decide +kernel)⟩
theorem kv_X12_settles : KV RX12 yX12_settles cX12_settles 2 (some .int) 0 := ⟨by decide +kernel, lwt8 (i := 59) (by decide +kernel) (by decide +kernel), lwt8 (i := 57) (by decide +kernel) (by decide +kernel), lwt8 (i := 58) (by decide +kernel) (by decide +kernel), lwt1 (i := 13) (by decide +kernel) (by decide +kernel)⟩
theorem kv_X12_settling : KV RX12 yX12_settling cX12_settling 4 (some .int) 2 := ⟨by decide +kernel, lwt8 (i := 67) (by decide +kernel) (by decide +kernel), lwt8 (i := 65) (by decide +kernel) (by decide +kernel), lwt8 (i := 66) (by decide +kernel) (by decide +kernel), lwt1 (i := 13) (by decide +kernel) (by decide +kernel)⟩
theorem kv_X12_tax : KV RX12 yX12_tax cX12_tax 4 (some .int) 1 := ⟨by decide +kernel, lwt8 (i := 71) (by decide +kernel) (by decide +kernel), lwt8 (i := 69) (by decide +kernel) (by decide +kernel), lwt8 (i := 70) (by decide +kernel) (by decide +kernel), lwt1 (i := 13) (by decide +kernel) (by decide +kernel)⟩
theorem kv_X12_without : KV RX12 yX12_without cX12_without 6 (some .int) 1 := ⟨by decide +kernel, lwt8 (i := 75) (by decide +kernel) (by decide +kernel), lwt8 (i := 73) (by decide +kernel) (by decide +kernel), lwt8 (i := 74) (by decide +kernel) (by decide +kernel), lwt1 (i := 13) (by decide +kernel) (by decide +kernel)⟩
theorem kv_X12_worth : KV RX12 yX12_worth cX12_worth 5 (some .int) 3 := ⟨by decide +kernel, lwt8 (i := 79) (by decide +kernel) (by decide +kernel), lwt8 (i := 77) (by decide +kernel) (by decide +kernel), lwt8 (i := 78) (by decide +kernel) (by decide +kernel), lwt1 (i := 13) (by decide +kernel) (by decide +kernel)⟩
theorem kv_X12_lack : KV RX12 yX12_lack cX12_lack 5 (some .int) 3 := ⟨by decide +kernel, lwt8 (i := 83) (by decide +kernel) (by decide +kernel), lwt8 (i := 81) (by decide +kernel) (by decide +kernel), lwt8 (i := 82) (by decide +kernel) (by decide +kernel), lwt1 (i := 13) (by decide +kernel) (by decide +kernel)⟩
theorem kv_X12_byGateOf : KV RX12 yX12_byGateOf cX12_byGateOf 2 (some .int) 1 := ⟨by decide +kernel, lwt8 (i := 91) (by decide +kernel) (by decide +kernel), lwt8 (i := 90) (by decide +kernel) (by decide +kernel), lwg_in (i := 107) (by decide +kernel) (by decide +kernel), lwt1 (i := 13) (by decide +kernel) (by decide +kernel)⟩
theorem kv_X12_byCarry : KV RX12 yX12_byCarry cX12_byCarry 3 (some .int) 1 := ⟨by decide +kernel, lwt8 (i := 87) (by decide +kernel) (by decide +kernel), lwt8 (i := 85) (by decide +kernel) (by decide +kernel), lwt8 (i := 86) (by decide +kernel) (by decide +kernel), lwt1 (i := 13) (by decide +kernel) (by decide +kernel)⟩
theorem kv_X12_carried : KV RX12 yX12_carried cX12_carried 5 (some .int) 1 := ⟨by decide +kernel, lwt8 (i := 95) (by decide +kernel) (by decide +kernel), lwt8 (i := 93) (by decide +kernel) (by decide +kernel), lwt8 (i := 94) (by decide +kernel) (by decide +kernel), lwt1 (i := 13) (by decide +kernel) (by decide +kernel)⟩
theorem kv_X12_route : KV RX12 yX12_route cX12_route 3 (some .int) 1 := ⟨by decide +kernel, lwt8 (i := 99) (by decide +kernel) (by decide +kernel), lwt8 (i := 97) (by decide +kernel) (by decide +kernel), lwt8 (i := 98) (by decide +kernel) (by decide +kernel), lwt1 (i := 13) (by decide +kernel) (by decide +kernel)⟩
theorem kv_X12_steps : KV RX12 yX12_steps cX12_steps 9 (some .int) 3 := ⟨by decide +kernel, lwt8 (i := 103) (by decide +kernel) (by decide +kernel), lwt8 (i := 101) (by decide +kernel) (by decide +kernel), lwt8 (i := 102) (by decide +kernel) (by decide +kernel), lwt1 (i := 13) (by decide +kernel) (by decide +kernel)⟩
theorem kv_X12_byGate : KV RX12 yX12_byGate cX12_byGate 2 (some .int) 1 := ⟨by decide +kernel, lwt8 (i := 107) (by decide +kernel) (by decide +kernel), lwt8 (i := 105) (by decide +kernel) (by decide +kernel), lwt8 (i := 106) (by decide +kernel) (by decide +kernel), lwt1 (i := 13) (by decide +kernel) (by decide +kernel)⟩
theorem kv_X12_gateFor : KV RX12 yX12_gateFor cX12_gateFor 3 (some .int) 1 := ⟨by decide +kernel, lwt8 (i := 111) (by decide +kernel) (by decide +kernel), lwt8 (i := 109) (by decide +kernel) (by decide +kernel), lwt8 (i := 110) (by decide +kernel) (by decide +kernel), lwt1 (i := 13) (by decide +kernel) (by decide +kernel)⟩
theorem kv_X12_days : KV RX12 yX12_days cX12_days 6 (some .int) 3 := ⟨by decide +kernel, lwt8 (i := 116) (by decide +kernel) (by decide +kernel), lwt8 (i := 114) (by decide +kernel) (by decide +kernel), lwt8 (i := 115) (by decide +kernel) (by decide +kernel), lwt1 (i := 13) (by decide +kernel) (by decide +kernel)⟩
theorem kv_X12_ifFirst : KV RX12 yX12_ifFirst cX12_ifFirst 4 (some .int) 2 := ⟨by decide +kernel, lwt8 (i := 120) (by decide +kernel) (by decide +kernel), lwt8 (i := 118) (by decide +kernel) (by decide +kernel), lwt8 (i := 119) (by decide +kernel) (by decide +kernel), lwt1 (i := 13) (by decide +kernel) (by decide +kernel)⟩
theorem kv_X12_dearest : KV RX12 yX12_dearest cX12_dearest 3 (some .int) 0 := ⟨by decide +kernel, lwt8 (i := 124) (by decide +kernel) (by decide +kernel), lwt8 (i := 122) (by decide +kernel) (by decide +kernel), lwt8 (i := 123) (by decide +kernel) (by decide +kernel), lwt1 (i := 13) (by decide +kernel) (by decide +kernel)⟩
theorem kv_X12_draw : KV RX12 yX12_draw cX12_draw 2 (some .int) 1 := ⟨by decide +kernel, lwt8 (i := 132) (by decide +kernel) (by decide +kernel), lwt8 (i := 131) (by decide +kernel) (by decide +kernel), lwg_in (i := 108) (by decide +kernel) (by decide +kernel), lwt1 (i := 13) (by decide +kernel) (by decide +kernel)⟩
theorem kv_X12_chance : KV RX12 yX12_chance cX12_chance 10 (some .int) 3 := ⟨by decide +kernel, lwt8 (i := 128) (by decide +kernel) (by decide +kernel), lwt8 (i := 126) (by decide +kernel) (by decide +kernel), lwt8 (i := 127) (by decide +kernel) (by decide +kernel), lwt1 (i := 13) (by decide +kernel) (by decide +kernel)⟩
theorem kv_X12_count : KV RX12 yX12_count cX12_count 4 (some .int) 1 := ⟨by decide +kernel, lwt8 (i := 140) (by decide +kernel) (by decide +kernel), lwt8 (i := 138) (by decide +kernel) (by decide +kernel), lwt8 (i := 139) (by decide +kernel) (by decide +kernel), lwt1 (i := 13) (by decide +kernel) (by decide +kernel)⟩
theorem km_max : KM Lib.Math.max.name Lib.Math.max.code 2 := ⟨lwt3 (i := 232) (by decide +kernel) (by decide +kernel), lwt1 (i := 19) (by decide +kernel) (by decide +kernel), lwt3 (i := 233) (by decide +kernel) (by decide +kernel)⟩
theorem km_min : KM Lib.Math.min.name Lib.Math.min.code 2 := ⟨lwt3 (i := 229) (by decide +kernel) (by decide +kernel), lwt1 (i := 19) (by decide +kernel) (by decide +kernel), lwt3 (i := 230) (by decide +kernel) (by decide +kernel)⟩
theorem km_abs : KM Lib.Math.abs.name Lib.Math.abs.code 1 := ⟨lwt3 (i := 117) (by decide +kernel) (by decide +kernel), lwt1 (i := 19) (by decide +kernel) (by decide +kernel), lwt3 (i := 118) (by decide +kernel) (by decide +kernel)⟩
theorem kc : KC := ⟨lwt4 (i := 55) (by decide +kernel) (by decide +kernel), lwt4 (i := 54) (by decide +kernel) (by decide +kernel), lwt1 (i := 22) (by decide +kernel) (by decide +kernel)⟩
theorem lwd_R (i : Int) : inR (lwd i) := by
  have a : ∀ k, k < 7 → -2147483648 ≤ lwd ((k : Nat) : Int) ∧ lwd ((k : Nat) : Int) ≤ 2147483647 := by decide +kernel
  rcases Nat.lt_or_ge i.toNat 7 with h | h
  · exact a i.toNat h
  · have e : lwd i = 0 := by unfold lwd; rw [List.getD_eq_getElem?_getD, List.getElem?_eq_none (by exact h)]; rfl
    rw [e]; exact inR0
theorem jor_B {a b : Int} (ha : isB a) (hb : isB b) : isB (jor a b) := by
  rcases ha with rfl | rfl <;> rcases hb with rfl | rfl
  · exact Or.inl (by decide +kernel)
  · exact Or.inr (by decide +kernel)
  · exact Or.inr (by decide +kernel)
  · exact Or.inr (by decide +kernel)
theorem kinR {b t n : Nat} (h : knd b = (t, n + 1)) : inR (b : Int) := by
  have h2 : b < 114 := knd_lt' h (by omega)
  constructor <;> omega
