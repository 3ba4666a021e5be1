abbrev rm_X8_readSetting : Room := { frames := 4, cells := 0, slots := 0, locals := 86 }
def F_X8_readSetting (N : Nat) (v1 : Nat) (v2 : Int) (σ : Sto) : Option (Int × Sto) :=
  if (jand (jshr (σ.1 1 8) v2) 1) = 1 then ((F_X8_fail N 3 σ).bind (fun q13 => some (q13.1, q13.2))) else (if v2 = 3 then ((F_X8_expectNumber N 1 100 (upI σ 1 8 (jor (σ.1 1 8) (jshl 1 v2)))).bind (fun q3 => if q3.1 = 0 then (some (0, q3.2)) else (some (1, (upI q3.2 v1 10 (q3.2.1 1 6)))))) else (if v2 = 4 then ((F_X8_expectNumber N 0 2 (upI σ 1 8 (jor (σ.1 1 8) (jshl 1 v2)))).bind (fun q6 => if q6.1 = 0 then (some (0, q6.2)) else (some (1, (upI q6.2 v1 11 (q6.2.1 1 6)))))) else (if v2 = 5 then ((F_X8_expectNumber N 0 1 (upI σ 1 8 (jor (σ.1 1 8) (jshl 1 v2)))).bind (fun q9 => if q9.1 = 0 then (some (0, q9.2)) else (some (1, (upI q9.2 v1 12 (q9.2.1 1 6)))))) else ((F_X8_expectNumber N 0 99999 (upI σ 1 8 (jor (σ.1 1 8) (jshl 1 v2)))).bind (fun q11 => if q11.1 = 0 then (some (0, q11.2)) else (some (1, (upI q11.2 v1 13 (q11.2.1 1 6)))))))))
set_option maxHeartbeats 4000000 in
set_option maxRecDepth 100000 in
theorem c_X8_readSetting (l : Launch) (g : Geo) (N : Nat) (v1 : Nat) (v2 : Int) (σ : Sto) (res : Int × Sto) (hk1 : knd v1 = (10, 14)) (h2 : inR v2) (ok : OK σ) (hF : F_X8_readSetting N v1 v2 σ = some res) : MtI l g yX8_readSetting cX8_readSetting 3 (some .boolean) rm_X8_readSetting [vr g 1, vr g v1, vi v2] σ res.1 res.2 isB := by
  intro sz
  refine Met.ofAt (own := RX8) (QQ := fun z => QI g z res.1 res.2 isB) (by decide +kernel) (Nat.le_of_ble_eq_true rfl) rfl ?_
  intro p e s m args below meth c C hr hlk
  show At p l e rm_X8_readSetting s m args below meth c 0 0 g 3 (MQ below (QI g s.heap.size res.1 res.2 isB) args s 0 0 (AA g s.heap.size)) 0 [(0, vr g 1), (1, vr g v1), (2, vi v2)] [] σ
  unfold F_X8_readSetting at hF
  refine at_aload_n (pc := 0) C 0 dX8_readSetting_0 rfl rfl ?_
  refine at_geti (pc := 1) (jz := 8) C fw_8_37 kd1 rfl (Nat.le_of_ble_eq_true rfl) rfl rfl dX8_readSetting_1 ?_
  refine at_iload_n (pc := 4) C 2 dX8_readSetting_4 rfl rfl ?_
  refine at_ishr (pc := 5) C dX8_readSetting_5 ?_
  refine at_iconst (pc := 6) C dX8_readSetting_6 ?_
  refine at_iand (pc := 7) C dX8_readSetting_7 ?_
  refine at_iconst (pc := 8) C dX8_readSetting_8 ?_
  refine at_icmp_ne (pc := 9) (tgt := 18) C (jand_R (jshr (σ.1 1 8) v2) 1) (isB.r (Or.inr rfl)) dX8_readSetting_9 rfl (fun c1 => ?_) (fun c1 => ?_)
  · have hF := (if_neg c1).symm.trans hF
    refine at_aload_n (pc := 18) C 0 dX8_readSetting_18 rfl rfl ?_
    refine at_dup (pc := 19) C dX8_readSetting_19 rfl ?_
    refine at_geti (pc := 20) (jz := 8) C fw_8_37 kd1 rfl (Nat.le_of_ble_eq_true rfl) rfl rfl dX8_readSetting_20 ?_
    refine at_iconst (pc := 23) C dX8_readSetting_23 ?_
    refine at_iload_n (pc := 24) C 2 dX8_readSetting_24 rfl rfl ?_
    refine at_ishl (pc := 25) C dX8_readSetting_25 ?_
    refine at_ior (pc := 26) C dX8_readSetting_26 ?_
    refine at_puti (pc := 27) (jz := 8) C fu_8_37 kd1 rfl (Nat.le_of_ble_eq_true rfl) rfl rfl dX8_readSetting_27 ?_
    refine at_iload_n (pc := 30) C 2 dX8_readSetting_30 rfl rfl ?_
    by_cases c2 : v2 = 3
    · have hF := (if_pos c2).symm.trans hF
      refine at_tin (pc := 31) (off := 25) (tgt := 56) C dX8_readSetting_31 h2 (by rw [c2]; decide) (by rw [c2]; decide) (by rw [c2]; rfl) rfl ?_
      refine at_aload_n (pc := 56) C 0 dX8_readSetting_56 rfl rfl ?_
      refine at_iconst (pc := 57) C dX8_readSetting_57 ?_
      refine at_bipush (pc := 58) C dX8_readSetting_58 (by decide) ?_
      obtain ⟨q3, eq3, hF⟩ := bind_some' hF
      refine at_callV (pc := 60) (ci := 8) C (c_X8_expectNumber l g N 1 100 (upI σ 1 8 (jor (σ.1 1 8) (jshl 1 v2))) q3 (isB.r (Or.inr rfl)) (show inR 100 from ⟨by decide, by decide⟩) (OK_up (k := 1) (j := 8) ok (jor_R (σ.1 1 8) (jshl 1 v2))) eq3) kv_X8_expectNumber w641 kd1 rfl rfl rfl rfl (Nat.le_of_ble_eq_true rfl) ⟨rfl, rfl, (Nat.le_of_ble_eq_true rfl), (Nat.le_of_ble_eq_true rfl)⟩ dX8_readSetting_60 (fun tq3 okq3 => ?_)
      refine at_if_ne (pc := 63) (tgt := 68) C (isB.r tq3) dX8_readSetting_63 rfl (fun c4 => ?_) (fun c4 => ?_)
      · have hF := (if_neg c4).symm.trans hF
        refine at_aload_n (pc := 68) C 1 dX8_readSetting_68 rfl rfl ?_
        refine at_aload_n (pc := 69) C 0 dX8_readSetting_69 rfl rfl ?_
        refine at_geti (pc := 70) (jz := 6) C fw_8_31 kd1 rfl (Nat.le_of_ble_eq_true rfl) rfl rfl dX8_readSetting_70 ?_
        refine at_puti (pc := 73) (jz := 10) C fu_8_136 hk1 rfl (Nat.le_of_ble_eq_true rfl) rfl rfl dX8_readSetting_73 ?_
        refine at_iconst (pc := 76) C dX8_readSetting_76 ?_
        obtain rfl := Option.some.inj hF
        exact at_zret (pc := 77) C hr hlk (Or.inr rfl) (OK_up (k := v1) (j := 10) okq3 (okq3 1 6)) dX8_readSetting_77
      · have hF := (if_pos c4).symm.trans hF
        refine at_iconst (pc := 66) C dX8_readSetting_66 ?_
        obtain rfl := Option.some.inj hF
        exact at_zret (pc := 67) C hr hlk (Or.inl rfl) okq3 dX8_readSetting_67
    · have hF := (if_neg c2).symm.trans hF
      by_cases c5 : v2 = 4
      · have hF := (if_pos c5).symm.trans hF
        refine at_tin (pc := 31) (off := 47) (tgt := 78) C dX8_readSetting_31 h2 (by rw [c5]; decide) (by rw [c5]; decide) (by rw [c5]; rfl) rfl ?_
        refine at_aload_n (pc := 78) C 0 dX8_readSetting_78 rfl rfl ?_
        refine at_iconst (pc := 79) C dX8_readSetting_79 ?_
        refine at_iconst (pc := 80) C dX8_readSetting_80 ?_
        obtain ⟨q6, eq6, hF⟩ := bind_some' hF
        refine at_callV (pc := 81) (ci := 8) C (c_X8_expectNumber l g N 0 2 (upI σ 1 8 (jor (σ.1 1 8) (jshl 1 v2))) q6 (isB.r (Or.inl rfl)) (show inR 2 from ⟨by decide, by decide⟩) (OK_up (k := 1) (j := 8) ok (jor_R (σ.1 1 8) (jshl 1 v2))) eq6) kv_X8_expectNumber w641 kd1 rfl rfl rfl rfl (Nat.le_of_ble_eq_true rfl) ⟨rfl, rfl, (Nat.le_of_ble_eq_true rfl), (Nat.le_of_ble_eq_true rfl)⟩ dX8_readSetting_81 (fun tq6 okq6 => ?_)
        refine at_if_ne (pc := 84) (tgt := 89) C (isB.r tq6) dX8_readSetting_84 rfl (fun c7 => ?_) (fun c7 => ?_)
        · have hF := (if_neg c7).symm.trans hF
          refine at_aload_n (pc := 89) C 1 dX8_readSetting_89 rfl rfl ?_
          refine at_aload_n (pc := 90) C 0 dX8_readSetting_90 rfl rfl ?_
          refine at_geti (pc := 91) (jz := 6) C fw_8_31 kd1 rfl (Nat.le_of_ble_eq_true rfl) rfl rfl dX8_readSetting_91 ?_
          refine at_puti (pc := 94) (jz := 11) C fu_8_139 hk1 rfl (Nat.le_of_ble_eq_true rfl) rfl rfl dX8_readSetting_94 ?_
          refine at_iconst (pc := 97) C dX8_readSetting_97 ?_
          obtain rfl := Option.some.inj hF
          exact at_zret (pc := 98) C hr hlk (Or.inr rfl) (OK_up (k := v1) (j := 11) okq6 (okq6 1 6)) dX8_readSetting_98
        · have hF := (if_pos c7).symm.trans hF
          refine at_iconst (pc := 87) C dX8_readSetting_87 ?_
          obtain rfl := Option.some.inj hF
          exact at_zret (pc := 88) C hr hlk (Or.inl rfl) okq6 dX8_readSetting_88
      · have hF := (if_neg c5).symm.trans hF
        by_cases c8 : v2 = 5
        · have hF := (if_pos c8).symm.trans hF
          refine at_tin (pc := 31) (off := 68) (tgt := 99) C dX8_readSetting_31 h2 (by rw [c8]; decide) (by rw [c8]; decide) (by rw [c8]; rfl) rfl ?_
          refine at_aload_n (pc := 99) C 0 dX8_readSetting_99 rfl rfl ?_
          refine at_iconst (pc := 100) C dX8_readSetting_100 ?_
          refine at_iconst (pc := 101) C dX8_readSetting_101 ?_
          obtain ⟨q9, eq9, hF⟩ := bind_some' hF
          refine at_callV (pc := 102) (ci := 8) C (c_X8_expectNumber l g N 0 1 (upI σ 1 8 (jor (σ.1 1 8) (jshl 1 v2))) q9 (isB.r (Or.inl rfl)) (isB.r (Or.inr rfl)) (OK_up (k := 1) (j := 8) ok (jor_R (σ.1 1 8) (jshl 1 v2))) eq9) kv_X8_expectNumber w641 kd1 rfl rfl rfl rfl (Nat.le_of_ble_eq_true rfl) ⟨rfl, rfl, (Nat.le_of_ble_eq_true rfl), (Nat.le_of_ble_eq_true rfl)⟩ dX8_readSetting_102 (fun tq9 okq9 => ?_)
          refine at_if_ne (pc := 105) (tgt := 110) C (isB.r tq9) dX8_readSetting_105 rfl (fun c10 => ?_) (fun c10 => ?_)
          · have hF := (if_neg c10).symm.trans hF
            refine at_aload_n (pc := 110) C 1 dX8_readSetting_110 rfl rfl ?_
            refine at_aload_n (pc := 111) C 0 dX8_readSetting_111 rfl rfl ?_
            refine at_geti (pc := 112) (jz := 6) C fw_8_31 kd1 rfl (Nat.le_of_ble_eq_true rfl) rfl rfl dX8_readSetting_112 ?_
            refine at_puti (pc := 115) (jz := 12) C fu_8_142 hk1 rfl (Nat.le_of_ble_eq_true rfl) rfl rfl dX8_readSetting_115 ?_
            refine at_iconst (pc := 118) C dX8_readSetting_118 ?_
            obtain rfl := Option.some.inj hF
            exact at_zret (pc := 119) C hr hlk (Or.inr rfl) (OK_up (k := v1) (j := 12) okq9 (okq9 1 6)) dX8_readSetting_119
          · have hF := (if_pos c10).symm.trans hF
            refine at_iconst (pc := 108) C dX8_readSetting_108 ?_
            obtain rfl := Option.some.inj hF
            exact at_zret (pc := 109) C hr hlk (Or.inl rfl) okq9 dX8_readSetting_109
        · have hF := (if_neg c8).symm.trans hF
          refine at_tout (pc := 31) (tgt := 120) C h2 dX8_readSetting_31 (by omega) rfl ?_
          refine at_aload_n (pc := 120) C 0 dX8_readSetting_120 rfl rfl ?_
          refine at_iconst (pc := 121) C dX8_readSetting_121 ?_
          refine at_ldc (pc := 122) (n := 99999) C dX8_readSetting_122 w666 ?_
          obtain ⟨q11, eq11, hF⟩ := bind_some' hF
          refine at_callV (pc := 124) (ci := 8) C (c_X8_expectNumber l g N 0 99999 (upI σ 1 8 (jor (σ.1 1 8) (jshl 1 v2))) q11 (isB.r (Or.inl rfl)) (show inR 99999 from ⟨by decide, by decide⟩) (OK_up (k := 1) (j := 8) ok (jor_R (σ.1 1 8) (jshl 1 v2))) eq11) kv_X8_expectNumber w641 kd1 rfl rfl rfl rfl (Nat.le_of_ble_eq_true rfl) ⟨rfl, rfl, (Nat.le_of_ble_eq_true rfl), (Nat.le_of_ble_eq_true rfl)⟩ dX8_readSetting_124 (fun tq11 okq11 => ?_)
          refine at_if_ne (pc := 127) (tgt := 132) C (isB.r tq11) dX8_readSetting_127 rfl (fun c12 => ?_) (fun c12 => ?_)
          · have hF := (if_neg c12).symm.trans hF
            refine at_aload_n (pc := 132) C 1 dX8_readSetting_132 rfl rfl ?_
            refine at_aload_n (pc := 133) C 0 dX8_readSetting_133 rfl rfl ?_
            refine at_geti (pc := 134) (jz := 6) C fw_8_31 kd1 rfl (Nat.le_of_ble_eq_true rfl) rfl rfl dX8_readSetting_134 ?_
            refine at_puti (pc := 137) (jz := 13) C fu_8_145 hk1 rfl (Nat.le_of_ble_eq_true rfl) rfl rfl dX8_readSetting_137 ?_
            refine at_iconst (pc := 140) C dX8_readSetting_140 ?_
            obtain rfl := Option.some.inj hF
            exact at_zret (pc := 141) C hr hlk (Or.inr rfl) (OK_up (k := v1) (j := 13) okq11 (okq11 1 6)) dX8_readSetting_141
          · have hF := (if_pos c12).symm.trans hF
            refine at_iconst (pc := 130) C dX8_readSetting_130 ?_
            obtain rfl := Option.some.inj hF
            exact at_zret (pc := 131) C hr hlk (Or.inl rfl) okq11 dX8_readSetting_131
  · have hF := (if_pos c1).symm.trans hF
    refine at_aload_n (pc := 12) C 0 dX8_readSetting_12 rfl rfl ?_
    refine at_iconst (pc := 13) C dX8_readSetting_13 ?_
    obtain ⟨q13, eq13, hF⟩ := bind_some' hF
    refine at_callV (pc := 14) (ci := 8) C (c_X8_fail l g N 3 σ q13 (show inR 3 from ⟨by decide, by decide⟩) ok eq13) kv_X8_fail w625 kd1 rfl rfl rfl rfl (Nat.le_of_ble_eq_true rfl) ⟨rfl, rfl, (Nat.le_of_ble_eq_true rfl), (Nat.le_of_ble_eq_true rfl)⟩ dX8_readSetting_14 (fun tq13 okq13 => ?_)
    obtain rfl := Option.some.inj hF
    exact at_zret (pc := 17) C hr hlk tq13 okq13 dX8_readSetting_17
abbrev rm_X8_readLine : Room := { frames := 5, cells := 0, slots := 0, locals := 110 }
def F_X8_readLine (N : Nat) (v1 : Nat) (σ : Sto) : Option (Int × Sto) :=
  if (σ.1 1 4) = 1 then (if (σ.1 1 6) = 0 then ((F_X8_readMember N v1 σ).bind (fun q3 => some (q3.1, q3.2))) else (if (σ.1 1 6) = 1 then ((F_X8_readOwns N v1 σ).bind (fun q5 => some (q5.1, q5.2))) else (if (σ.1 1 6) = 2 then ((F_X8_readPeriod N v1 σ).bind (fun q7 => some (q7.1, q7.2))) else ((F_X8_readSetting N v1 (σ.1 1 6) σ).bind (fun q8 => some (q8.1, q8.2)))))) else ((F_X8_fail N 1 σ).bind (fun q9 => some (q9.1, q9.2)))
set_option maxHeartbeats 4000000 in
set_option maxRecDepth 100000 in
theorem c_X8_readLine (l : Launch) (g : Geo) (N : Nat) (v1 : Nat) (σ : Sto) (res : Int × Sto) (hk1 : knd v1 = (10, 14)) (ok : OK σ) (hF : F_X8_readLine N v1 σ = some res) : MtI l g yX8_readLine cX8_readLine 2 (some .boolean) rm_X8_readLine [vr g 1, vr g v1] σ res.1 res.2 isB := by
  intro sz
  refine Met.ofAt (own := RX8) (QQ := fun z => QI g z res.1 res.2 isB) (by decide +kernel) (Nat.le_of_ble_eq_true rfl) rfl ?_
  intro p e s m args below meth c C hr hlk
  show At p l e rm_X8_readLine s m args below meth c 0 0 g 2 (MQ below (QI g s.heap.size res.1 res.2 isB) args s 0 0 (AA g s.heap.size)) 0 [(0, vr g 1), (1, vr g v1)] [] σ
  unfold F_X8_readLine at hF
  refine at_aload_n (pc := 0) C 0 dX8_readLine_0 rfl rfl ?_
  refine at_geti (pc := 1) (jz := 4) C fw_8_25 kd1 rfl (Nat.le_of_ble_eq_true rfl) rfl rfl dX8_readLine_1 ?_
  refine at_iconst (pc := 4) C dX8_readLine_4 ?_
  refine at_icmp_eq (pc := 5) (tgt := 14) C (ok 1 4) (isB.r (Or.inr rfl)) dX8_readLine_5 rfl (fun c1 => ?_) (fun c1 => ?_)
  · have hF := (if_pos c1).symm.trans hF
    refine at_aload_n (pc := 14) C 0 dX8_readLine_14 rfl rfl ?_
    refine at_geti (pc := 15) (jz := 6) C fw_8_31 kd1 rfl (Nat.le_of_ble_eq_true rfl) rfl rfl dX8_readLine_15 ?_
    by_cases c2 : (σ.1 1 6) = 0
    · have hF := (if_pos c2).symm.trans hF
      refine at_tin (pc := 18) (off := 26) (tgt := 44) C dX8_readLine_18 (ok 1 6) (by rw [c2]; decide) (by rw [c2]; decide) (by rw [c2]; rfl) rfl ?_
      refine at_aload_n (pc := 44) C 0 dX8_readLine_44 rfl rfl ?_
      refine at_aload_n (pc := 45) C 1 dX8_readLine_45 rfl rfl ?_
      obtain ⟨q3, eq3, hF⟩ := bind_some' hF
      refine at_callV (pc := 46) (ci := 8) C (c_X8_readMember l g N v1 σ q3 hk1 ok eq3) kv_X8_readMember w629 kd1 rfl rfl rfl rfl (Nat.le_of_ble_eq_true rfl) ⟨rfl, rfl, (Nat.le_of_ble_eq_true rfl), (Nat.le_of_ble_eq_true rfl)⟩ dX8_readLine_46 (fun tq3 okq3 => ?_)
      obtain rfl := Option.some.inj hF
      exact at_zret (pc := 49) C hr hlk tq3 okq3 dX8_readLine_49
    · have hF := (if_neg c2).symm.trans hF
      by_cases c4 : (σ.1 1 6) = 1
      · have hF := (if_pos c4).symm.trans hF
        refine at_tin (pc := 18) (off := 32) (tgt := 50) C dX8_readLine_18 (ok 1 6) (by rw [c4]; decide) (by rw [c4]; decide) (by rw [c4]; rfl) rfl ?_
        refine at_aload_n (pc := 50) C 0 dX8_readLine_50 rfl rfl ?_
        refine at_aload_n (pc := 51) C 1 dX8_readLine_51 rfl rfl ?_
        obtain ⟨q5, eq5, hF⟩ := bind_some' hF
        refine at_callV (pc := 52) (ci := 8) C (c_X8_readOwns l g N v1 σ q5 hk1 ok eq5) kv_X8_readOwns w645 kd1 rfl rfl rfl rfl (Nat.le_of_ble_eq_true rfl) ⟨rfl, rfl, (Nat.le_of_ble_eq_true rfl), (Nat.le_of_ble_eq_true rfl)⟩ dX8_readLine_52 (fun tq5 okq5 => ?_)
        obtain rfl := Option.some.inj hF
        exact at_zret (pc := 55) C hr hlk tq5 okq5 dX8_readLine_55
      · have hF := (if_neg c4).symm.trans hF
        by_cases c6 : (σ.1 1 6) = 2
        · have hF := (if_pos c6).symm.trans hF
          refine at_tin (pc := 18) (off := 38) (tgt := 56) C dX8_readLine_18 (ok 1 6) (by rw [c6]; decide) (by rw [c6]; decide) (by rw [c6]; rfl) rfl ?_
          refine at_aload_n (pc := 56) C 0 dX8_readLine_56 rfl rfl ?_
          refine at_aload_n (pc := 57) C 1 dX8_readLine_57 rfl rfl ?_
          obtain ⟨q7, eq7, hF⟩ := bind_some' hF
          refine at_callV (pc := 58) (ci := 8) C (c_X8_readPeriod l g N v1 σ q7 hk1 ok eq7) kv_X8_readPeriod w657 kd1 rfl rfl rfl rfl (Nat.le_of_ble_eq_true rfl) ⟨rfl, rfl, (Nat.le_of_ble_eq_true rfl), (Nat.le_of_ble_eq_true rfl)⟩ dX8_readLine_58 (fun tq7 okq7 => ?_)
          obtain rfl := Option.some.inj hF
          exact at_zret (pc := 61) C hr hlk tq7 okq7 dX8_readLine_61
        · have hF := (if_neg c6).symm.trans hF
          refine at_tout (pc := 18) (tgt := 62) C (ok 1 6) dX8_readLine_18 (by omega) rfl ?_
          refine at_aload_n (pc := 62) C 0 dX8_readLine_62 rfl rfl ?_
          refine at_aload_n (pc := 63) C 1 dX8_readLine_63 rfl rfl ?_
          refine at_aload_n (pc := 64) C 0 dX8_readLine_64 rfl rfl ?_
          refine at_geti (pc := 65) (jz := 6) C fw_8_31 kd1 rfl (Nat.le_of_ble_eq_true rfl) rfl rfl dX8_readLine_65 ?_
          obtain ⟨q8, eq8, hF⟩ := bind_some' hF
          refine at_callV (pc := 68) (ci := 8) C (c_X8_readSetting l g N v1 (σ.1 1 6) σ q8 hk1 (ok 1 6) ok eq8) kv_X8_readSetting w667 kd1 rfl rfl rfl rfl (Nat.le_of_ble_eq_true rfl) ⟨rfl, rfl, (Nat.le_of_ble_eq_true rfl), (Nat.le_of_ble_eq_true rfl)⟩ dX8_readLine_68 (fun tq8 okq8 => ?_)
          obtain rfl := Option.some.inj hF
          exact at_zret (pc := 71) C hr hlk tq8 okq8 dX8_readLine_71
  · have hF := (if_neg c1).symm.trans hF
    refine at_aload_n (pc := 8) C 0 dX8_readLine_8 rfl rfl ?_
    refine at_iconst (pc := 9) C dX8_readLine_9 ?_
    obtain ⟨q9, eq9, hF⟩ := bind_some' hF
    refine at_callV (pc := 10) (ci := 8) C (c_X8_fail l g N 1 σ q9 (isB.r (Or.inr rfl)) ok eq9) kv_X8_fail w625 kd1 rfl rfl rfl rfl (Nat.le_of_ble_eq_true rfl) ⟨rfl, rfl, (Nat.le_of_ble_eq_true rfl), (Nat.le_of_ble_eq_true rfl)⟩ dX8_readLine_10 (fun tq9 okq9 => ?_)
    obtain rfl := Option.some.inj hF
    exact at_zret (pc := 13) C hr hlk tq9 okq9 dX8_readLine_13
abbrev rm_X8_read : Room := { frames := 6, cells := 0, slots := 0, locals := 131 }
def F_X8_read_B45 (N : Nat) (nx45 : (Int × Sto) → Option (Int × Sto)) (v1 : Nat) (v3 : Int) (σ : Sto) : Option (Int × Sto) :=
  if 700 ≤ v3 then (some (1, σ)) else (if (σ.1 1 4) = 0 then (some (1, σ)) else ((F_X8_readLine N v1 σ).bind (fun q5 => if q5.1 = 0 then (some (0, q5.2)) else ((F_X8_expect N 5 q5.2).bind (fun q7 => if q7.1 = 0 then (some (0, q7.2)) else ((F_X8_next N (upI q7.2 1 7 (ja (q7.2.1 1 7) 1))).bind (fun q9 => nx45 ((ja v3 1), q9))))))))
def F_X8_read (N : Nat) (v1 : Nat) (v2 : Int) (σ : Sto) : Option (Int × Sto) :=
  (F_X0_clear N v1 (upI (upI (upI (upI (upI (upI (upI σ 1 2 v2) 1 3 0) 1 1 0) 1 7 0) 1 8 0) 1 9 0) 1 10 (-1))).bind (fun q1 => (F_X8_next N q1).bind (fun q2 => loopK (fun q nx45 => F_X8_read_B45 N  nx45 v1 q.1 q.2) N (0, q2)))
set_option maxHeartbeats 4000000 in
set_option maxRecDepth 100000 in
theorem c_X8_read (l : Launch) (g : Geo) (N : Nat) (v1 : Nat) (v2 : Int) (σ : Sto) (res : Int × Sto) (hk1 : knd v1 = (10, 14)) (h2 : inR v2) (ok : OK σ) (hF : F_X8_read N v1 v2 σ = some res) : MtI l g yX8_read cX8_read 4 (some .boolean) rm_X8_read [vr g 1, vr g v1, vi v2] σ res.1 res.2 isB := by
  intro sz
  refine Met.ofAt (own := RX8) (QQ := fun z => QI g z res.1 res.2 isB) (by decide +kernel) (Nat.le_of_ble_eq_true rfl) rfl ?_
  intro p e s m args below meth c C hr hlk
  show At p l e rm_X8_read s m args below meth c 0 0 g 4 (MQ below (QI g s.heap.size res.1 res.2 isB) args s 0 0 (AA g s.heap.size)) 0 [(0, vr g 1), (1, vr g v1), (2, vi v2)] [] σ
  unfold F_X8_read at hF
  refine at_aload_n (pc := 0) C 0 dX8_read_0 rfl rfl ?_
  refine at_iload_n (pc := 1) C 2 dX8_read_1 rfl rfl ?_
  refine at_puti (pc := 2) (jz := 2) C fu_8_19 kd1 rfl (Nat.le_of_ble_eq_true rfl) rfl rfl dX8_read_2 ?_
  refine at_aload_n (pc := 5) C 0 dX8_read_5 rfl rfl ?_
  refine at_iconst (pc := 6) C dX8_read_6 ?_
  refine at_puti (pc := 7) (jz := 3) C fu_8_22 kd1 rfl (Nat.le_of_ble_eq_true rfl) rfl rfl dX8_read_7 ?_
  refine at_aload_n (pc := 10) C 0 dX8_read_10 rfl rfl ?_
  refine at_iconst (pc := 11) C dX8_read_11 ?_
  refine at_puti (pc := 12) (jz := 1) C fu_8_15 kd1 rfl (Nat.le_of_ble_eq_true rfl) rfl rfl dX8_read_12 ?_
  refine at_aload_n (pc := 15) C 0 dX8_read_15 rfl rfl ?_
  refine at_iconst (pc := 16) C dX8_read_16 ?_
  refine at_puti (pc := 17) (jz := 7) C fu_8_34 kd1 rfl (Nat.le_of_ble_eq_true rfl) rfl rfl dX8_read_17 ?_
  refine at_aload_n (pc := 20) C 0 dX8_read_20 rfl rfl ?_
  refine at_iconst (pc := 21) C dX8_read_21 ?_
  refine at_puti (pc := 22) (jz := 8) C fu_8_37 kd1 rfl (Nat.le_of_ble_eq_true rfl) rfl rfl dX8_read_22 ?_
  refine at_aload_n (pc := 25) C 0 dX8_read_25 rfl rfl ?_
  refine at_iconst (pc := 26) C dX8_read_26 ?_
  refine at_puti (pc := 27) (jz := 9) C fu_8_40 kd1 rfl (Nat.le_of_ble_eq_true rfl) rfl rfl dX8_read_27 ?_
  refine at_aload_n (pc := 30) C 0 dX8_read_30 rfl rfl ?_
  refine at_iconst (pc := 31) C dX8_read_31 ?_
  refine at_puti (pc := 32) (jz := 10) C fu_8_43 kd1 rfl (Nat.le_of_ble_eq_true rfl) rfl rfl dX8_read_32 ?_
  refine at_aload_n (pc := 35) C 1 dX8_read_35 rfl rfl ?_
  obtain ⟨q1, eq1, hF⟩ := bind_some' hF
  refine at_callVv (pc := 36) (ci := 0) C (c_X0_clear l g N v1 (upI (upI (upI (upI (upI (upI (upI σ 1 2 v2) 1 3 0) 1 1 0) 1 7 0) 1 8 0) 1 9 0) 1 10 (-1)) q1 hk1 (OK_up (k := 1) (j := 10) (OK_up (k := 1) (j := 9) (OK_up (k := 1) (j := 8) (OK_up (k := 1) (j := 7) (OK_up (k := 1) (j := 1) (OK_up (k := 1) (j := 3) (OK_up (k := 1) (j := 2) ok h2) (isB.r (Or.inl rfl))) (isB.r (Or.inl rfl))) (isB.r (Or.inl rfl))) (isB.r (Or.inl rfl))) (isB.r (Or.inl rfl))) (show inR (-1) from ⟨by decide, by decide⟩)) eq1) kv_X0_clear w589 hk1 rfl rfl rfl rfl (Nat.le_of_ble_eq_true rfl) ⟨rfl, rfl, (Nat.le_of_ble_eq_true rfl), (Nat.le_of_ble_eq_true rfl)⟩ dX8_read_36 (fun okq1 => ?_)
  refine at_aload_n (pc := 39) C 0 dX8_read_39 rfl rfl ?_
  obtain ⟨q2, eq2, hF⟩ := bind_some' hF
  refine at_callVv (pc := 40) (ci := 8) C (c_X8_next l g N  q1 q2  okq1 eq2) kv_X8_next w593 kd1 rfl rfl rfl rfl (Nat.le_of_ble_eq_true rfl) ⟨rfl, rfl, (Nat.le_of_ble_eq_true rfl), (Nat.le_of_ble_eq_true rfl)⟩ dX8_read_40 (fun okq2 => ?_)
  refine at_iconst (pc := 43) C dX8_read_43 ?_
  refine at_istore_n (pc := 44) (lv' := [(3, vi 0), (0, vr g 1), (1, vr g v1), (2, vi v2)]) C dX8_read_44 rfl (Nat.le_of_ble_eq_true rfl) rfl ?_
  have L45 : ∀ (v1 : Nat) (v3 : Int) (σ : Sto), knd v1 = (10, 14) → inR v3 → OK σ → loopK (fun q nx45 => F_X8_read_B45 N  nx45 v1 q.1 q.2) N (v3, σ) = some res → At p l e rm_X8_read s m args below meth c 0 0 g 4 (MQ below (QI g s.heap.size res.1 res.2 isB) args s 0 0 (AA g s.heap.size)) 45 [(0, vr g 1), (1, vr g v1), (3, vi v3)] [] σ := by
    intro v1 v3 σ hk1 h3 ok hF
    refine loopK_ind (res := res) (P := fun (q : Int × Sto) => inR q.1 → OK q.2 → At p l e rm_X8_read s m args below meth c 0 0 g 4 (MQ below (QI g s.heap.size res.1 res.2 isB) args s 0 0 (AA g s.heap.size)) 45 [(0, vr g 1), (1, vr g v1), (3, vi q.1)] [] q.2) ?_ N _ hF h3 ok
    intro nx45 q ih45 hF
    obtain ⟨v3, σ⟩ := q
    intro h3 ok
    have hF : F_X8_read_B45 N  nx45 v1 v3 σ = some res := hF
    unfold F_X8_read_B45 at hF
    refine at_iload_n (pc := 45) C 2 dX8_read_45 rfl rfl ?_
    refine at_sipush (pc := 46) C dX8_read_46 (by decide) ?_
    refine at_icmp_ge (pc := 49) (tgt := 97) C h3 (show inR 700 from ⟨by decide, by decide⟩) dX8_read_49 rfl (fun c3 => ?_) (fun c3 => ?_)
    · have hF := (if_pos c3).symm.trans hF
      refine at_iconst (pc := 97) C dX8_read_97 ?_
      obtain rfl := Option.some.inj hF
      exact at_zret (pc := 98) C hr hlk (Or.inr rfl) ok dX8_read_98
    · have hF := (if_neg c3).symm.trans hF
      refine at_aload_n (pc := 52) C 0 dX8_read_52 rfl rfl ?_
      refine at_geti (pc := 53) (jz := 4) C fw_8_25 kd1 rfl (Nat.le_of_ble_eq_true rfl) rfl rfl dX8_read_53 ?_
      refine at_if_eq (pc := 56) (tgt := 97) C (ok 1 4) dX8_read_56 rfl (fun c4 => ?_) (fun c4 => ?_)
      · have hF := (if_pos c4).symm.trans hF
        refine at_iconst (pc := 97) C dX8_read_97 ?_
        obtain rfl := Option.some.inj hF
        exact at_zret (pc := 98) C hr hlk (Or.inr rfl) ok dX8_read_98
      · have hF := (if_neg c4).symm.trans hF
        refine at_aload_n (pc := 59) C 0 dX8_read_59 rfl rfl ?_
        refine at_aload_n (pc := 60) C 1 dX8_read_60 rfl rfl ?_
        obtain ⟨q5, eq5, hF⟩ := bind_some' hF
        refine at_callV (pc := 61) (ci := 8) C (c_X8_readLine l g N v1 σ q5 hk1 ok eq5) kv_X8_readLine w621 kd1 rfl rfl rfl rfl (Nat.le_of_ble_eq_true rfl) ⟨rfl, rfl, (Nat.le_of_ble_eq_true rfl), (Nat.le_of_ble_eq_true rfl)⟩ dX8_read_61 (fun tq5 okq5 => ?_)
        refine at_if_eq (pc := 64) (tgt := 75) C (isB.r tq5) dX8_read_64 rfl (fun c6 => ?_) (fun c6 => ?_)
        · have hF := (if_pos c6).symm.trans hF
          refine at_iconst (pc := 75) C dX8_read_75 ?_
          obtain rfl := Option.some.inj hF
          exact at_zret (pc := 76) C hr hlk (Or.inl rfl) okq5 dX8_read_76
        · have hF := (if_neg c6).symm.trans hF
          refine at_aload_n (pc := 67) C 0 dX8_read_67 rfl rfl ?_
          refine at_iconst (pc := 68) C dX8_read_68 ?_
          obtain ⟨q7, eq7, hF⟩ := bind_some' hF
          refine at_callV (pc := 69) (ci := 8) C (c_X8_expect l g N 5 q5.2 q7 (show inR 5 from ⟨by decide, by decide⟩) okq5 eq7) kv_X8_expect w633 kd1 rfl rfl rfl rfl (Nat.le_of_ble_eq_true rfl) ⟨rfl, rfl, (Nat.le_of_ble_eq_true rfl), (Nat.le_of_ble_eq_true rfl)⟩ dX8_read_69 (fun tq7 okq7 => ?_)
          refine at_if_ne (pc := 72) (tgt := 77) C (isB.r tq7) dX8_read_72 rfl (fun c8 => ?_) (fun c8 => ?_)
          · have hF := (if_neg c8).symm.trans hF
            refine at_aload_n (pc := 77) C 0 dX8_read_77 rfl rfl ?_
            refine at_dup (pc := 78) C dX8_read_78 rfl ?_
            refine at_geti (pc := 79) (jz := 7) C fw_8_34 kd1 rfl (Nat.le_of_ble_eq_true rfl) rfl rfl dX8_read_79 ?_
            refine at_iconst (pc := 82) C dX8_read_82 ?_
            refine at_iadd (pc := 83) C dX8_read_83 ?_
            refine at_puti (pc := 84) (jz := 7) C fu_8_34 kd1 rfl (Nat.le_of_ble_eq_true rfl) rfl rfl dX8_read_84 ?_
            refine at_aload_n (pc := 87) C 0 dX8_read_87 rfl rfl ?_
            obtain ⟨q9, eq9, hF⟩ := bind_some' hF
            refine at_callVv (pc := 88) (ci := 8) C (c_X8_next l g N  (upI q7.2 1 7 (ja (q7.2.1 1 7) 1)) q9  (OK_up (k := 1) (j := 7) okq7 (ja_R (q7.2.1 1 7) 1)) eq9) kv_X8_next w593 kd1 rfl rfl rfl rfl (Nat.le_of_ble_eq_true rfl) ⟨rfl, rfl, (Nat.le_of_ble_eq_true rfl), (Nat.le_of_ble_eq_true rfl)⟩ dX8_read_88 (fun okq9 => ?_)
            refine at_iinc (pc := 91) (lv' := [(3, vi (ja v3 1)), (0, vr g 1), (1, vr g v1)]) C 2 dX8_read_91 rfl (Nat.le_of_ble_eq_true rfl) rfl ?_
            refine at_goto (pc := 94) (tgt := 45) C dX8_read_94 rfl ?_
            refine at_sub (lv' := [(0, vr g 1), (1, vr g v1), (3, vi (ja v3 1))]) [1, 2, 0] rfl ?_
            exact ih45 _ hF (ja_R v3 1) okq9
          · have hF := (if_pos c8).symm.trans hF
            refine at_iconst (pc := 75) C dX8_read_75 ?_
            obtain rfl := Option.some.inj hF
            exact at_zret (pc := 76) C hr hlk (Or.inl rfl) okq7 dX8_read_76
  refine at_sub (lv' := [(0, vr g 1), (1, vr g v1), (3, vi 0)]) [1, 2, 0] rfl ?_
  exact L45 v1 0 q2 hk1 (isB.r (Or.inl rfl)) okq2 hF
abbrev rm_X9_pay : Room := { frames := 0, cells := 0, slots := 0, locals := 0 }
def F_X9_pay (N : Nat) (v1 : Int) (v2 : Int) (v3 : Int) (σ : Sto) : Option (Sto) :=
  inb v1 8 (inb v2 8 (inb ((upI (upI σ 69 v1 (ja (σ.1 69 v1) v3)) 69 v2 (js ((upI σ 69 v1 (ja (σ.1 69 v1) v3)).1 69 v2) v3)).1 68 4) 8 (inb ((upI (upI (upI σ 69 v1 (ja (σ.1 69 v1) v3)) 69 v2 (js ((upI σ 69 v1 (ja (σ.1 69 v1) v3)).1 69 v2) v3)) 70 ((upI (upI σ 69 v1 (ja (σ.1 69 v1) v3)) 69 v2 (js ((upI σ 69 v1 (ja (σ.1 69 v1) v3)).1 69 v2) v3)).1 68 4) v1).1 68 4) 8 (inb ((upI (upI (upI (upI σ 69 v1 (ja (σ.1 69 v1) v3)) 69 v2 (js ((upI σ 69 v1 (ja (σ.1 69 v1) v3)).1 69 v2) v3)) 70 ((upI (upI σ 69 v1 (ja (σ.1 69 v1) v3)) 69 v2 (js ((upI σ 69 v1 (ja (σ.1 69 v1) v3)).1 69 v2) v3)).1 68 4) v1) 71 ((upI (upI (upI σ 69 v1 (ja (σ.1 69 v1) v3)) 69 v2 (js ((upI σ 69 v1 (ja (σ.1 69 v1) v3)).1 69 v2) v3)) 70 ((upI (upI σ 69 v1 (ja (σ.1 69 v1) v3)) 69 v2 (js ((upI σ 69 v1 (ja (σ.1 69 v1) v3)).1 69 v2) v3)).1 68 4) v1).1 68 4) v2).1 68 4) 8 (some (upI (upI (upI (upI (upI (upI σ 69 v1 (ja (σ.1 69 v1) v3)) 69 v2 (js ((upI σ 69 v1 (ja (σ.1 69 v1) v3)).1 69 v2) v3)) 70 ((upI (upI σ 69 v1 (ja (σ.1 69 v1) v3)) 69 v2 (js ((upI σ 69 v1 (ja (σ.1 69 v1) v3)).1 69 v2) v3)).1 68 4) v1) 71 ((upI (upI (upI σ 69 v1 (ja (σ.1 69 v1) v3)) 69 v2 (js ((upI σ 69 v1 (ja (σ.1 69 v1) v3)).1 69 v2) v3)) 70 ((upI (upI σ 69 v1 (ja (σ.1 69 v1) v3)) 69 v2 (js ((upI σ 69 v1 (ja (σ.1 69 v1) v3)).1 69 v2) v3)).1 68 4) v1).1 68 4) v2) 72 ((upI (upI (upI (upI σ 69 v1 (ja (σ.1 69 v1) v3)) 69 v2 (js ((upI σ 69 v1 (ja (σ.1 69 v1) v3)).1 69 v2) v3)) 70 ((upI (upI σ 69 v1 (ja (σ.1 69 v1) v3)) 69 v2 (js ((upI σ 69 v1 (ja (σ.1 69 v1) v3)).1 69 v2) v3)).1 68 4) v1) 71 ((upI (upI (upI σ 69 v1 (ja (σ.1 69 v1) v3)) 69 v2 (js ((upI σ 69 v1 (ja (σ.1 69 v1) v3)).1 69 v2) v3)) 70 ((upI (upI σ 69 v1 (ja (σ.1 69 v1) v3)) 69 v2 (js ((upI σ 69 v1 (ja (σ.1 69 v1) v3)).1 69 v2) v3)).1 68 4) v1).1 68 4) v2).1 68 4) v3) 68 4 (ja ((upI (upI (upI (upI (upI σ 69 v1 (ja (σ.1 69 v1) v3)) 69 v2 (js ((upI σ 69 v1 (ja (σ.1 69 v1) v3)).1 69 v2) v3)) 70 ((upI (upI σ 69 v1 (ja (σ.1 69 v1) v3)) 69 v2 (js ((upI σ 69 v1 (ja (σ.1 69 v1) v3)).1 69 v2) v3)).1 68 4) v1) 71 ((upI (upI (upI σ 69 v1 (ja (σ.1 69 v1) v3)) 69 v2 (js ((upI σ 69 v1 (ja (σ.1 69 v1) v3)).1 69 v2) v3)) 70 ((upI (upI σ 69 v1 (ja (σ.1 69 v1) v3)) 69 v2 (js ((upI σ 69 v1 (ja (σ.1 69 v1) v3)).1 69 v2) v3)).1 68 4) v1).1 68 4) v2) 72 ((upI (upI (upI (upI σ 69 v1 (ja (σ.1 69 v1) v3)) 69 v2 (js ((upI σ 69 v1 (ja (σ.1 69 v1) v3)).1 69 v2) v3)) 70 ((upI (upI σ 69 v1 (ja (σ.1 69 v1) v3)) 69 v2 (js ((upI σ 69 v1 (ja (σ.1 69 v1) v3)).1 69 v2) v3)).1 68 4) v1) 71 ((upI (upI (upI σ 69 v1 (ja (σ.1 69 v1) v3)) 69 v2 (js ((upI σ 69 v1 (ja (σ.1 69 v1) v3)).1 69 v2) v3)) 70 ((upI (upI σ 69 v1 (ja (σ.1 69 v1) v3)) 69 v2 (js ((upI σ 69 v1 (ja (σ.1 69 v1) v3)).1 69 v2) v3)).1 68 4) v1).1 68 4) v2).1 68 4) v3).1 68 4) 1)))))))
set_option maxHeartbeats 4000000 in
set_option maxRecDepth 100000 in
theorem c_X9_pay (l : Launch) (g : Geo) (N : Nat) (v1 : Int) (v2 : Int) (v3 : Int) (σ : Sto) (res : Sto) (h1 : inR v1) (h2 : inR v2) (h3 : inR v3) (ok : OK σ) (hF : F_X9_pay N v1 v2 v3 σ = some res) : MtV l g yX9_pay cX9_pay 4 none rm_X9_pay [vr g 68, vi v1, vi v2, vi v3] σ res := by
  intro sz
  refine Met.ofAt (own := RX9) (QQ := fun z => QV g z res) (by decide +kernel) (Nat.le_of_ble_eq_true rfl) rfl ?_
  intro p e s m args below meth c C hr hlk
  show At p l e rm_X9_pay s m args below meth c 0 0 g 4 (MQ below (QV g s.heap.size res) args s 0 0 (AA g s.heap.size)) 0 [(0, vr g 68), (1, vi v1), (2, vi v2), (3, vi v3)] [] σ
  unfold F_X9_pay at hF
  refine at_aload_n (pc := 0) C 0 dX9_pay_0 rfl rfl ?_
  refine at_getr (pc := 1) (k' := 69) C 1 fw_9_9 kd68 rfl (Nat.le_of_ble_eq_true rfl) rfl rfl dX9_pay_1 ?_
  refine at_iload_n (pc := 4) C 1 dX9_pay_4 rfl rfl ?_
  refine at_dup2 (pc := 5) C dX9_pay_5 rfl rfl ?_
  obtain ⟨b1, hF⟩ := inb_some hF
  refine at_iaload (pc := 6) C kd69 b1 dX9_pay_6 ?_
  refine at_iload_n (pc := 7) C 3 dX9_pay_7 rfl rfl ?_
  refine at_iadd (pc := 8) C dX9_pay_8 ?_
  refine at_iastore (pc := 9) C kd69 b1 dX9_pay_9 ?_
  refine at_aload_n (pc := 10) C 0 dX9_pay_10 rfl rfl ?_
  refine at_getr (pc := 11) (k' := 69) C 1 fw_9_9 kd68 rfl (Nat.le_of_ble_eq_true rfl) rfl rfl dX9_pay_11 ?_
  refine at_iload_n (pc := 14) C 2 dX9_pay_14 rfl rfl ?_
  refine at_dup2 (pc := 15) C dX9_pay_15 rfl rfl ?_
  obtain ⟨b2, hF⟩ := inb_some hF
  refine at_iaload (pc := 16) C kd69 b2 dX9_pay_16 ?_
  refine at_iload_n (pc := 17) C 3 dX9_pay_17 rfl rfl ?_
  refine at_isub (pc := 18) C dX9_pay_18 ?_
  refine at_iastore (pc := 19) C kd69 b2 dX9_pay_19 ?_
  refine at_aload_n (pc := 20) C 0 dX9_pay_20 rfl rfl ?_
  refine at_getr (pc := 21) (k' := 70) C 2 fw_9_15 kd68 rfl (Nat.le_of_ble_eq_true rfl) rfl rfl dX9_pay_21 ?_
  refine at_aload_n (pc := 24) C 0 dX9_pay_24 rfl rfl ?_
  refine at_geti (pc := 25) (jz := 4) C fw_9_24 kd68 rfl (Nat.le_of_ble_eq_true rfl) rfl rfl dX9_pay_25 ?_
  refine at_iload_n (pc := 28) C 1 dX9_pay_28 rfl rfl ?_
  obtain ⟨b3, hF⟩ := inb_some hF
  refine at_iastore (pc := 29) C kd70 b3 dX9_pay_29 ?_
  refine at_aload_n (pc := 30) C 0 dX9_pay_30 rfl rfl ?_
  refine at_getr (pc := 31) (k' := 71) C 3 fw_9_18 kd68 rfl (Nat.le_of_ble_eq_true rfl) rfl rfl dX9_pay_31 ?_
  refine at_aload_n (pc := 34) C 0 dX9_pay_34 rfl rfl ?_
  refine at_geti (pc := 35) (jz := 4) C fw_9_24 kd68 rfl (Nat.le_of_ble_eq_true rfl) rfl rfl dX9_pay_35 ?_
  refine at_iload_n (pc := 38) C 2 dX9_pay_38 rfl rfl ?_
  obtain ⟨b4, hF⟩ := inb_some hF
  refine at_iastore (pc := 39) C kd71 b4 dX9_pay_39 ?_
  refine at_aload_n (pc := 40) C 0 dX9_pay_40 rfl rfl ?_
  refine at_getr (pc := 41) (k' := 72) C 4 fw_9_21 kd68 rfl (Nat.le_of_ble_eq_true rfl) rfl rfl dX9_pay_41 ?_
  refine at_aload_n (pc := 44) C 0 dX9_pay_44 rfl rfl ?_
  refine at_geti (pc := 45) (jz := 4) C fw_9_24 kd68 rfl (Nat.le_of_ble_eq_true rfl) rfl rfl dX9_pay_45 ?_
  refine at_iload_n (pc := 48) C 3 dX9_pay_48 rfl rfl ?_
  obtain ⟨b5, hF⟩ := inb_some hF
  refine at_iastore (pc := 49) C kd72 b5 dX9_pay_49 ?_
  refine at_aload_n (pc := 50) C 0 dX9_pay_50 rfl rfl ?_
  refine at_dup (pc := 51) C dX9_pay_51 rfl ?_
  refine at_geti (pc := 52) (jz := 4) C fw_9_24 kd68 rfl (Nat.le_of_ble_eq_true rfl) rfl rfl dX9_pay_52 ?_
  refine at_iconst (pc := 55) C dX9_pay_55 ?_
  refine at_iadd (pc := 56) C dX9_pay_56 ?_
  refine at_puti (pc := 57) (jz := 4) C fu_9_24 kd68 rfl (Nat.le_of_ble_eq_true rfl) rfl rfl dX9_pay_57 ?_
  obtain rfl := Option.some.inj hF
  exact at_vret (pc := 60) C hr hlk (OK_up (k := 68) (j := 4) (OK_up (k := 72) (j := ((upI (upI (upI (upI σ 69 v1 (ja (σ.1 69 v1) v3)) 69 v2 (js ((upI σ 69 v1 (ja (σ.1 69 v1) v3)).1 69 v2) v3)) 70 ((upI (upI σ 69 v1 (ja (σ.1 69 v1) v3)) 69 v2 (js ((upI σ 69 v1 (ja (σ.1 69 v1) v3)).1 69 v2) v3)).1 68 4) v1) 71 ((upI (upI (upI σ 69 v1 (ja (σ.1 69 v1) v3)) 69 v2 (js ((upI σ 69 v1 (ja (σ.1 69 v1) v3)).1 69 v2) v3)) 70 ((upI (upI σ 69 v1 (ja (σ.1 69 v1) v3)) 69 v2 (js ((upI σ 69 v1 (ja (σ.1 69 v1) v3)).1 69 v2) v3)).1 68 4) v1).1 68 4) v2).1 68 4)) (OK_up (k := 71) (j := ((upI (upI (upI σ 69 v1 (ja (σ.1 69 v1) v3)) 69 v2 (js ((upI σ 69 v1 (ja (σ.1 69 v1) v3)).1 69 v2) v3)) 70 ((upI (upI σ 69 v1 (ja (σ.1 69 v1) v3)) 69 v2 (js ((upI σ 69 v1 (ja (σ.1 69 v1) v3)).1 69 v2) v3)).1 68 4) v1).1 68 4)) (OK_up (k := 70) (j := ((upI (upI σ 69 v1 (ja (σ.1 69 v1) v3)) 69 v2 (js ((upI σ 69 v1 (ja (σ.1 69 v1) v3)).1 69 v2) v3)).1 68 4)) (OK_up (k := 69) (j := v2) (OK_up (k := 69) (j := v1) ok (ja_R (σ.1 69 v1) v3)) (js_R ((upI σ 69 v1 (ja (σ.1 69 v1) v3)).1 69 v2) v3)) h1) h2) h3) (ja_R ((upI (upI (upI (upI (upI σ 69 v1 (ja (σ.1 69 v1) v3)) 69 v2 (js ((upI σ 69 v1 (ja (σ.1 69 v1) v3)).1 69 v2) v3)) 70 ((upI (upI σ 69 v1 (ja (σ.1 69 v1) v3)) 69 v2 (js ((upI σ 69 v1 (ja (σ.1 69 v1) v3)).1 69 v2) v3)).1 68 4) v1) 71 ((upI (upI (upI σ 69 v1 (ja (σ.1 69 v1) v3)) 69 v2 (js ((upI σ 69 v1 (ja (σ.1 69 v1) v3)).1 69 v2) v3)) 70 ((upI (upI σ 69 v1 (ja (σ.1 69 v1) v3)) 69 v2 (js ((upI σ 69 v1 (ja (σ.1 69 v1) v3)).1 69 v2) v3)).1 68 4) v1).1 68 4) v2) 72 ((upI (upI (upI (upI σ 69 v1 (ja (σ.1 69 v1) v3)) 69 v2 (js ((upI σ 69 v1 (ja (σ.1 69 v1) v3)).1 69 v2) v3)) 70 ((upI (upI σ 69 v1 (ja (σ.1 69 v1) v3)) 69 v2 (js ((upI σ 69 v1 (ja (σ.1 69 v1) v3)).1 69 v2) v3)).1 68 4) v1) 71 ((upI (upI (upI σ 69 v1 (ja (σ.1 69 v1) v3)) 69 v2 (js ((upI σ 69 v1 (ja (σ.1 69 v1) v3)).1 69 v2) v3)) 70 ((upI (upI σ 69 v1 (ja (σ.1 69 v1) v3)) 69 v2 (js ((upI σ 69 v1 (ja (σ.1 69 v1) v3)).1 69 v2) v3)).1 68 4) v1).1 68 4) v2).1 68 4) v3).1 68 4) 1)) dX9_pay_60
abbrev rm_X9_run : Room := { frames := 1, cells := 0, slots := 0, locals := 23 }
def F_X9_run_J81 (N : Nat) (nx7 : (Int × Sto) → Option (Sto)) (v1 : Int) (v2 : Int) (v3 : Int) (v4 : Int) (σ : Sto) : Option (Sto) :=
  inb v3 8 (if (σ.1 69 v3) < 0 then (inb v4 8 ((F_X9_pay N v3 v4 (jmin (jneg (σ.1 69 v3)) (σ.1 69 v4)) σ).bind (fun q5 => nx7 ((ja v2 1), q5)))) else (some σ))
def F_X9_run_J73 (N : Nat) (nx7 : (Int × Sto) → Option (Sto)) (nx20 : (Int × Int × Int) → Option (Sto)) (v1 : Int) (v2 : Int) (v3 : Int) (v5 : Int) (t0 : Int) (σ : Sto) : Option (Sto) :=
  nx20 (v3, t0, (ja v5 1))
def F_X9_run_J48 (N : Nat) (nx7 : (Int × Sto) → Option (Sto)) (nx20 : (Int × Int × Int) → Option (Sto)) (v1 : Int) (v2 : Int) (v4 : Int) (v5 : Int) (t0 : Int) (σ : Sto) : Option (Sto) :=
  inb v5 8 (inb v4 8 (if (σ.1 69 v5) ≤ (σ.1 69 v4) then (F_X9_run_J73 N nx7 nx20 v1 v2 t0 v5 v4 σ) else (F_X9_run_J73 N nx7 nx20 v1 v2 t0 v5 v5 σ)))
def F_X9_run_B20 (N : Nat) (nx7 : (Int × Sto) → Option (Sto)) (nx20 : (Int × Int × Int) → Option (Sto)) (v1 : Int) (v2 : Int) (v3 : Int) (v4 : Int) (v5 : Int) (σ : Sto) : Option (Sto) :=
  if v1 ≤ v5 then (F_X9_run_J81 N nx7 v1 v2 v3 v4 σ) else (inb v5 8 (inb v3 8 (if (σ.1 69 v3) ≤ (σ.1 69 v5) then (F_X9_run_J48 N nx7 nx20 v1 v2 v4 v5 v3 σ) else (F_X9_run_J48 N nx7 nx20 v1 v2 v4 v5 v5 σ))))
def F_X9_run_B7 (N : Nat) (nx7 : (Int × Sto) → Option (Sto)) (v1 : Int) (v2 : Int) (σ : Sto) : Option (Sto) :=
  if v1 ≤ v2 then (some σ) else (loopK (fun q nx20 => F_X9_run_B20 N nx7 nx20 v1 v2 q.1 q.2.1 q.2.2 σ) N (0, 0, 1))
def F_X9_run (N : Nat) (v1 : Int) (σ : Sto) : Option (Sto) :=
  loopK (fun q nx7 => F_X9_run_B7 N  nx7 v1 q.1 q.2) N (0, (upI σ 68 4 0))
set_option maxHeartbeats 4000000 in
set_option maxRecDepth 100000 in
theorem c_X9_run (l : Launch) (g : Geo) (N : Nat) (v1 : Int) (σ : Sto) (res : Sto) (h1 : inR v1) (ok : OK σ) (hF : F_X9_run N v1 σ = some res) : MtV l g yX9_run cX9_run 6 none rm_X9_run [vr g 68, vi v1] σ res := by
  intro sz
  refine Met.ofAt (own := RX9) (QQ := fun z => QV g z res) (by decide +kernel) (Nat.le_of_ble_eq_true rfl) rfl ?_
  intro p e s m args below meth c C hr hlk
  show At p l e rm_X9_run s m args below meth c 0 0 g 6 (MQ below (QV g s.heap.size res) args s 0 0 (AA g s.heap.size)) 0 [(0, vr g 68), (1, vi v1)] [] σ
  unfold F_X9_run at hF
  refine at_aload_n (pc := 0) C 0 dX9_run_0 rfl rfl ?_
  refine at_iconst (pc := 1) C dX9_run_1 ?_
  refine at_puti (pc := 2) (jz := 4) C fu_9_24 kd68 rfl (Nat.le_of_ble_eq_true rfl) rfl rfl dX9_run_2 ?_
  refine at_iconst (pc := 5) C dX9_run_5 ?_
  refine at_istore_n (pc := 6) (lv' := [(2, vi 0), (0, vr g 68), (1, vi v1)]) C dX9_run_6 rfl (Nat.le_of_ble_eq_true rfl) rfl ?_
  have L7 : ∀ (v1 : Int) (v2 : Int) (σ : Sto), inR v1 → inR v2 → OK σ → loopK (fun q nx7 => F_X9_run_B7 N  nx7 v1 q.1 q.2) N (v2, σ) = some res → At p l e rm_X9_run s m args below meth c 0 0 g 6 (MQ below (QV g s.heap.size res) args s 0 0 (AA g s.heap.size)) 7 [(0, vr g 68), (1, vi v1), (2, vi v2)] [] σ := by
    intro v1 v2 σ h1 h2 ok hF
    refine loopK_ind (res := res) (P := fun (q : Int × Sto) => inR q.1 → OK q.2 → At p l e rm_X9_run s m args below meth c 0 0 g 6 (MQ below (QV g s.heap.size res) args s 0 0 (AA g s.heap.size)) 7 [(0, vr g 68), (1, vi v1), (2, vi q.1)] [] q.2) ?_ N _ hF h2 ok
    intro nx7 q ih7 hF
    obtain ⟨v2, σ⟩ := q
    intro h2 ok
    have hF : F_X9_run_B7 N  nx7 v1 v2 σ = some res := hF
    unfold F_X9_run_B7 at hF
    refine at_iload_n (pc := 7) C 2 dX9_run_7 rfl rfl ?_
    refine at_iload_n (pc := 8) C 1 dX9_run_8 rfl rfl ?_
    refine at_icmp_ge (pc := 9) (tgt := 121) C h2 h1 dX9_run_9 rfl (fun c1 => ?_) (fun c1 => ?_)
    · have hF := (if_pos c1).symm.trans hF
      obtain rfl := Option.some.inj hF
      exact at_vret (pc := 121) C hr hlk ok dX9_run_121
    · have hF := (if_neg c1).symm.trans hF
      refine at_iconst (pc := 12) C dX9_run_12 ?_
      refine at_istore_n (pc := 13) (lv' := [(3, vi 0), (0, vr g 68), (1, vi v1), (2, vi v2)]) C dX9_run_13 rfl (Nat.le_of_ble_eq_true rfl) rfl ?_
      refine at_iconst (pc := 14) C dX9_run_14 ?_
      refine at_istore (pc := 15) (lv' := [(4, vi 0), (3, vi 0), (0, vr g 68), (1, vi v1), (2, vi v2)]) C dX9_run_15 (Nat.le_of_ble_eq_true rfl) rfl ?_
      refine at_iconst (pc := 17) C dX9_run_17 ?_
      refine at_istore (pc := 18) (lv' := [(5, vi 1), (4, vi 0), (3, vi 0), (0, vr g 68), (1, vi v1), (2, vi v2)]) C dX9_run_18 (Nat.le_of_ble_eq_true rfl) rfl ?_
      have L20 : ∀ (v2 : Int) (v3 : Int) (v4 : Int) (v5 : Int) (σ : Sto), inR v2 → inR v3 → inR v4 → inR v5 → OK σ → loopK (fun q nx20 => F_X9_run_B20 N nx7 nx20 v1 v2 q.1 q.2.1 q.2.2 σ) N (v3, v4, v5) = some res → At p l e rm_X9_run s m args below meth c 0 0 g 6 (MQ below (QV g s.heap.size res) args s 0 0 (AA g s.heap.size)) 20 [(0, vr g 68), (1, vi v1), (2, vi v2), (3, vi v3), (4, vi v4), (5, vi v5)] [] σ := by
        intro v2 v3 v4 v5 σ h2 h3 h4 h5 ok hF
        refine loopK_ind (res := res) (P := fun (q : Int × Int × Int) => inR q.1 → inR q.2.1 → inR q.2.2 → At p l e rm_X9_run s m args below meth c 0 0 g 6 (MQ below (QV g s.heap.size res) args s 0 0 (AA g s.heap.size)) 20 [(0, vr g 68), (1, vi v1), (2, vi v2), (3, vi q.1), (4, vi q.2.1), (5, vi q.2.2)] [] σ) ?_ N _ hF h3 h4 h5
        intro nx20 q ih20 hF
        obtain ⟨v3, v4, v5⟩ := q
        intro h3 h4 h5
        have hF : F_X9_run_B20 N nx7 nx20 v1 v2 v3 v4 v5 σ = some res := hF
        unfold F_X9_run_B20 at hF
        have J81 : ∀ (v2 : Int) (v3 : Int) (v4 : Int) (σ : Sto), inR v2 → inR v3 → inR v4 → OK σ → F_X9_run_J81 N nx7 v1 v2 v3 v4 σ = some res → At p l e rm_X9_run s m args below meth c 0 0 g 6 (MQ below (QV g s.heap.size res) args s 0 0 (AA g s.heap.size)) 81 [(0, vr g 68), (1, vi v1), (2, vi v2), (3, vi v3), (4, vi v4)] [] σ := by
          intro v2 v3 v4 σ h2 h3 h4 ok hF
          unfold F_X9_run_J81 at hF
          refine at_aload_n (pc := 81) C 0 dX9_run_81 rfl rfl ?_
          refine at_getr (pc := 82) (k' := 69) C 1 fw_9_9 kd68 rfl (Nat.le_of_ble_eq_true rfl) rfl rfl dX9_run_82 ?_
          refine at_iload_n (pc := 85) C 3 dX9_run_85 rfl rfl ?_
          obtain ⟨b2, hF⟩ := inb_some hF
          refine at_iaload (pc := 86) C kd69 b2 dX9_run_86 ?_
          refine at_if_lt (pc := 87) (tgt := 91) C (ok 69 v3) dX9_run_87 rfl (fun c3 => ?_) (fun c3 => ?_)
          · have hF := (if_pos c3).symm.trans hF
            refine at_aload_n (pc := 91) C 0 dX9_run_91 rfl rfl ?_
            refine at_iload_n (pc := 92) C 3 dX9_run_92 rfl rfl ?_
            refine at_iload (pc := 93) C 4 dX9_run_93 rfl ?_
            refine at_aload_n (pc := 95) C 0 dX9_run_95 rfl rfl ?_
            refine at_getr (pc := 96) (k' := 69) C 1 fw_9_9 kd68 rfl (Nat.le_of_ble_eq_true rfl) rfl rfl dX9_run_96 ?_
            refine at_iload_n (pc := 99) C 3 dX9_run_99 rfl rfl ?_
            refine at_iaload (pc := 100) C kd69 b2 dX9_run_100 ?_
            refine at_ineg (pc := 101) C dX9_run_101 ?_
            refine at_aload_n (pc := 102) C 0 dX9_run_102 rfl rfl ?_
            refine at_getr (pc := 103) (k' := 69) C 1 fw_9_9 kd68 rfl (Nat.le_of_ble_eq_true rfl) rfl rfl dX9_run_103 ?_
            refine at_iload (pc := 106) C 4 dX9_run_106 rfl ?_
            obtain ⟨b4, hF⟩ := inb_some hF
            refine at_iaload (pc := 108) C kd69 b4 dX9_run_108 ?_
            refine at_mmin (pc := 109) C km_min w1103 (jneg_R (σ.1 69 v3)) (ok 69 v4) ⟨(Nat.le_of_ble_eq_true rfl), (Nat.le_of_ble_eq_true rfl)⟩ dX9_run_109 ?_
            obtain ⟨q5, eq5, hF⟩ := bind_some' hF
            refine at_callVv (pc := 112) (ci := 9) C (c_X9_pay l g N v3 v4 (jmin (jneg (σ.1 69 v3)) (σ.1 69 v4)) σ q5 h3 h4 (jmin_R (jneg_R (σ.1 69 v3)) (ok 69 v4)) ok eq5) kv_X9_pay w1104 kd68 rfl rfl rfl rfl (Nat.le_of_ble_eq_true rfl) ⟨rfl, rfl, (Nat.le_of_ble_eq_true rfl), (Nat.le_of_ble_eq_true rfl)⟩ dX9_run_112 (fun okq5 => ?_)
            refine at_iinc (pc := 115) (lv' := [(2, vi (ja v2 1)), (0, vr g 68), (1, vi v1), (3, vi v3), (4, vi v4)]) C 2 dX9_run_115 rfl (Nat.le_of_ble_eq_true rfl) rfl ?_
            refine at_goto (pc := 118) (tgt := 7) C dX9_run_118 rfl ?_
            refine at_sub (lv' := [(0, vr g 68), (1, vi v1), (2, vi (ja v2 1))]) [1, 2, 0] rfl ?_
            exact ih7 _ hF (ja_R v2 1) okq5
          · have hF := (if_neg c3).symm.trans hF
            obtain rfl := Option.some.inj hF
            exact at_vret (pc := 90) C hr hlk ok dX9_run_90
        refine at_iload (pc := 20) C 5 dX9_run_20 rfl ?_
        refine at_iload_n (pc := 22) C 1 dX9_run_22 rfl rfl ?_
        refine at_icmp_ge (pc := 23) (tgt := 81) C h5 h1 dX9_run_23 rfl (fun c6 => ?_) (fun c6 => ?_)
        · have hF := (if_pos c6).symm.trans hF
          refine at_sub (lv' := [(0, vr g 68), (1, vi v1), (2, vi v2), (3, vi v3), (4, vi v4)]) [0, 1, 2, 3, 4] rfl ?_
          exact J81 v2 v3 v4 σ h2 h3 h4 ok hF
        · have hF := (if_neg c6).symm.trans hF
          have J48 : ∀ (v4 : Int) (v5 : Int) (t0 : Int), inR v4 → inR v5 → inR t0 → F_X9_run_J48 N nx7 nx20 v1 v2 v4 v5 t0 σ = some res → At p l e rm_X9_run s m args below meth c 0 0 g 6 (MQ below (QV g s.heap.size res) args s 0 0 (AA g s.heap.size)) 48 [(0, vr g 68), (1, vi v1), (2, vi v2), (4, vi v4), (5, vi v5)] [vi t0] σ := by
            intro v4 v5 t0 h4 h5 ht0 hF
            unfold F_X9_run_J48 at hF
            have J73 : ∀ (v3 : Int) (v5 : Int) (t0 : Int), inR v3 → inR v5 → inR t0 → F_X9_run_J73 N nx7 nx20 v1 v2 v3 v5 t0 σ = some res → At p l e rm_X9_run s m args below meth c 0 0 g 6 (MQ below (QV g s.heap.size res) args s 0 0 (AA g s.heap.size)) 73 [(0, vr g 68), (1, vi v1), (2, vi v2), (3, vi v3), (5, vi v5)] [vi t0] σ := by
              intro v3 v5 t0 h3 h5 ht0 hF
              unfold F_X9_run_J73 at hF
              refine at_istore (pc := 73) (lv' := [(4, vi t0), (0, vr g 68), (1, vi v1), (2, vi v2), (3, vi v3), (5, vi v5)]) C dX9_run_73 (Nat.le_of_ble_eq_true rfl) rfl ?_
              refine at_iinc (pc := 75) (lv' := [(5, vi (ja v5 1)), (4, vi t0), (0, vr g 68), (1, vi v1), (2, vi v2), (3, vi v3)]) C 5 dX9_run_75 rfl (Nat.le_of_ble_eq_true rfl) rfl ?_
              refine at_goto (pc := 78) (tgt := 20) C dX9_run_78 rfl ?_
              refine at_sub (lv' := [(0, vr g 68), (1, vi v1), (2, vi v2), (3, vi v3), (4, vi t0), (5, vi (ja v5 1))]) [2, 3, 4, 5, 1, 0] rfl ?_
              exact ih20 _ hF h3 ht0 (ja_R v5 1)
            refine at_istore_n (pc := 48) (lv' := [(3, vi t0), (0, vr g 68), (1, vi v1), (2, vi v2), (4, vi v4), (5, vi v5)]) C dX9_run_48 rfl (Nat.le_of_ble_eq_true rfl) rfl ?_
            refine at_aload_n (pc := 49) C 1 dX9_run_49 rfl rfl ?_
            refine at_getr (pc := 50) (k' := 69) C 1 fw_9_9 kd68 rfl (Nat.le_of_ble_eq_true rfl) rfl rfl dX9_run_50 ?_
            refine at_iload (pc := 53) C 5 dX9_run_53 rfl ?_
            obtain ⟨b7, hF⟩ := inb_some hF
            refine at_iaload (pc := 55) C kd69 b7 dX9_run_55 ?_
            refine at_aload_n (pc := 56) C 1 dX9_run_56 rfl rfl ?_
            refine at_getr (pc := 57) (k' := 69) C 1 fw_9_9 kd68 rfl (Nat.le_of_ble_eq_true rfl) rfl rfl dX9_run_57 ?_
            refine at_iload (pc := 60) C 4 dX9_run_60 rfl ?_
            obtain ⟨b8, hF⟩ := inb_some hF
            refine at_iaload (pc := 62) C kd69 b8 dX9_run_62 ?_
            refine at_icmp_le (pc := 63) (tgt := 71) C (ok 69 v5) (ok 69 v4) dX9_run_63 rfl (fun c9 => ?_) (fun c9 => ?_)
            · have hF := (if_pos c9).symm.trans hF
              refine at_iload (pc := 71) C 4 dX9_run_71 rfl ?_
              refine at_sub (lv' := [(0, vr g 68), (1, vi v1), (2, vi v2), (3, vi t0), (5, vi v5)]) [1, 2, 3, 0, 5] rfl ?_
              exact J73 t0 v5 v4 ht0 h5 h4 hF
            · have hF := (if_neg c9).symm.trans hF
              refine at_iload (pc := 66) C 5 dX9_run_66 rfl ?_
              refine at_goto (pc := 68) (tgt := 73) C dX9_run_68 rfl ?_
              refine at_sub (lv' := [(0, vr g 68), (1, vi v1), (2, vi v2), (3, vi t0), (5, vi v5)]) [1, 2, 3, 0, 5] rfl ?_
              exact J73 t0 v5 v5 ht0 h5 h5 hF
          refine at_aload_n (pc := 26) C 0 dX9_run_26 rfl rfl ?_
          refine at_getr (pc := 27) (k' := 69) C 1 fw_9_9 kd68 rfl (Nat.le_of_ble_eq_true rfl) rfl rfl dX9_run_27 ?_
          refine at_iload (pc := 30) C 5 dX9_run_30 rfl ?_
          obtain ⟨b10, hF⟩ := inb_some hF
          refine at_iaload (pc := 32) C kd69 b10 dX9_run_32 ?_
          refine at_aload_n (pc := 33) C 0 dX9_run_33 rfl rfl ?_
          refine at_getr (pc := 34) (k' := 69) C 1 fw_9_9 kd68 rfl (Nat.le_of_ble_eq_true rfl) rfl rfl dX9_run_34 ?_
          refine at_iload_n (pc := 37) C 3 dX9_run_37 rfl rfl ?_
          obtain ⟨b11, hF⟩ := inb_some hF
          refine at_iaload (pc := 38) C kd69 b11 dX9_run_38 ?_
          refine at_icmp_ge (pc := 39) (tgt := 47) C (ok 69 v5) (ok 69 v3) dX9_run_39 rfl (fun c12 => ?_) (fun c12 => ?_)
          · have hF := (if_pos c12).symm.trans hF
            refine at_iload_n (pc := 47) C 3 dX9_run_47 rfl rfl ?_
            refine at_sub (lv' := [(0, vr g 68), (1, vi v1), (2, vi v2), (4, vi v4), (5, vi v5)]) [0, 1, 2, 4, 5] rfl ?_
            exact J48 v4 v5 v3 h4 h5 h3 hF
          · have hF := (if_neg c12).symm.trans hF
            refine at_iload (pc := 42) C 5 dX9_run_42 rfl ?_
            refine at_goto (pc := 44) (tgt := 48) C dX9_run_44 rfl ?_
            refine at_sub (lv' := [(0, vr g 68), (1, vi v1), (2, vi v2), (4, vi v4), (5, vi v5)]) [0, 1, 2, 4, 5] rfl ?_
            exact J48 v4 v5 v5 h4 h5 h5 hF
      refine at_sub (lv' := [(0, vr g 68), (1, vi v1), (2, vi v2), (3, vi 0), (4, vi 0), (5, vi 1)]) [3, 4, 5, 2, 1, 0] rfl ?_
      exact L20 v2 0 0 1 σ h2 (isB.r (Or.inl rfl)) (isB.r (Or.inl rfl)) (isB.r (Or.inr rfl)) ok hF
  refine at_sub (lv' := [(0, vr g 68), (1, vi v1), (2, vi 0)]) [1, 2, 0] rfl ?_
  exact L7 v1 0 (upI σ 68 4 0) h1 (isB.r (Or.inl rfl)) (OK_up (k := 68) (j := 4) ok (isB.r (Or.inl rfl))) hF
abbrev rm_X10_groupOf : Room := { frames := 1, cells := 0, slots := 0, locals := 23 }
def F_X10_groupOf_J51 (N : Nat) (nx6 : (Int × Int) → Option (Int)) (v2 : Int) (v3 : Int) (σ : Sto) : Option (Int) :=
  nx6 (v2, (ja v3 1))
def F_X10_groupOf_J45 (N : Nat) (nx6 : (Int × Int) → Option (Int)) (nx17 : (Int × Int) → Option (Int)) (v2 : Int) (v3 : Int) (v4 : Int) (σ : Sto) : Option (Int) :=
  nx17 (v2, (ja v4 1))
def F_X10_groupOf_B17 (N : Nat) (nx6 : (Int × Int) → Option (Int)) (nx17 : (Int × Int) → Option (Int)) (v3 : Int) (v2 : Int) (v4 : Int) (σ : Sto) : Option (Int) :=
  if (σ.1 46 5) ≤ v4 then (F_X10_groupOf_J51 N nx6 v2 v3 σ) else (if (jand (jshr v2 v4) 1) = 1 then ((F_X10_relativesOf N v4 σ).bind (fun q4 => F_X10_groupOf_J45 N nx6 nx17 (jor v2 q4) v3 v4 σ)) else (F_X10_groupOf_J45 N nx6 nx17 v2 v3 v4 σ))
def F_X10_groupOf_B6 (N : Nat) (nx6 : (Int × Int) → Option (Int))  (v2 : Int) (v3 : Int) (σ : Sto) : Option (Int) :=
  if (σ.1 46 5) ≤ v3 then (some v2) else (loopK (fun q nx17 => F_X10_groupOf_B17 N nx6 nx17 v3 q.1 q.2 σ) N (v2, 0))
def F_X10_groupOf (N : Nat) (v1 : Int) (σ : Sto) : Option (Int) :=
  loopK (fun q nx6 => F_X10_groupOf_B6 N  nx6  q.1 q.2 σ) N ((jshl 1 v1), 0)
set_option maxHeartbeats 4000000 in
set_option maxRecDepth 100000 in
theorem c_X10_groupOf (l : Launch) (g : Geo) (N : Nat) (v1 : Int) (σ : Sto) (res : Int) (h1 : inR v1) (ok : OK σ) (hF : F_X10_groupOf N v1 σ = some res) : MtI l g yX10_groupOf cX10_groupOf 5 (some .int) rm_X10_groupOf [vr g 46, vi v1] σ res σ inR := by
  intro sz
  refine Met.ofAt (own := RX10) (QQ := fun z => QI g z res σ inR) (by decide +kernel) (Nat.le_of_ble_eq_true rfl) rfl ?_
  intro p e s m args below meth c C hr hlk
  show At p l e rm_X10_groupOf s m args below meth c 0 0 g 5 (MQ below (QI g s.heap.size res σ inR) args s 0 0 (AA g s.heap.size)) 0 [(0, vr g 46), (1, vi v1)] [] σ
  unfold F_X10_groupOf at hF
  refine at_iconst (pc := 0) C dX10_groupOf_0 ?_
  refine at_iload_n (pc := 1) C 1 dX10_groupOf_1 rfl rfl ?_
  refine at_ishl (pc := 2) C dX10_groupOf_2 ?_
  refine at_istore_n (pc := 3) (lv' := [(2, vi (jshl 1 v1)), (0, vr g 46), (1, vi v1)]) C dX10_groupOf_3 rfl (Nat.le_of_ble_eq_true rfl) rfl ?_
  refine at_iconst (pc := 4) C dX10_groupOf_4 ?_
  refine at_istore_n (pc := 5) (lv' := [(3, vi 0), (2, vi (jshl 1 v1)), (0, vr g 46), (1, vi v1)]) C dX10_groupOf_5 rfl (Nat.le_of_ble_eq_true rfl) rfl ?_
  have L6 : ∀ (v2 : Int) (v3 : Int), inR v2 → inR v3 → loopK (fun q nx6 => F_X10_groupOf_B6 N  nx6  q.1 q.2 σ) N (v2, v3) = some res → At p l e rm_X10_groupOf s m args below meth c 0 0 g 5 (MQ below (QI g s.heap.size res σ inR) args s 0 0 (AA g s.heap.size)) 6 [(0, vr g 46), (2, vi v2), (3, vi v3)] [] σ := by
    intro v2 v3 h2 h3 hF
    refine loopK_ind (res := res) (P := fun (q : Int × Int) => inR q.1 → inR q.2 → At p l e rm_X10_groupOf s m args below meth c 0 0 g 5 (MQ below (QI g s.heap.size res σ inR) args s 0 0 (AA g s.heap.size)) 6 [(0, vr g 46), (2, vi q.1), (3, vi q.2)] [] σ) ?_ N _ hF h2 h3
    intro nx6 q ih6 hF
    obtain ⟨v2, v3⟩ := q
    intro h2 h3
    have hF : F_X10_groupOf_B6 N  nx6  v2 v3 σ = some res := hF
    unfold F_X10_groupOf_B6 at hF
    refine at_iload_n (pc := 6) C 2 dX10_groupOf_6 rfl rfl ?_
    refine at_aload_n (pc := 7) C 0 dX10_groupOf_7 rfl rfl ?_
    refine at_geti (pc := 8) (jz := 5) C fw_10_28 kd46 rfl (Nat.le_of_ble_eq_true rfl) rfl rfl dX10_groupOf_8 ?_
    refine at_icmp_ge (pc := 11) (tgt := 57) C h3 (ok 46 5) dX10_groupOf_11 rfl (fun c1 => ?_) (fun c1 => ?_)
    · have hF := (if_pos c1).symm.trans hF
      refine at_iload_n (pc := 57) C 1 dX10_groupOf_57 rfl rfl ?_
      obtain rfl := Option.some.inj hF
      exact at_iret (pc := 58) C hr hlk h2 ok dX10_groupOf_58
    · have hF := (if_neg c1).symm.trans hF
      refine at_iconst (pc := 14) C dX10_groupOf_14 ?_
      refine at_istore (pc := 15) (lv' := [(4, vi 0), (0, vr g 46), (2, vi v2), (3, vi v3)]) C dX10_groupOf_15 (Nat.le_of_ble_eq_true rfl) rfl ?_
      have L17 : ∀ (v2 : Int) (v3 : Int) (v4 : Int), inR v2 → inR v3 → inR v4 → loopK (fun q nx17 => F_X10_groupOf_B17 N nx6 nx17 v3 q.1 q.2 σ) N (v2, v4) = some res → At p l e rm_X10_groupOf s m args below meth c 0 0 g 5 (MQ below (QI g s.heap.size res σ inR) args s 0 0 (AA g s.heap.size)) 17 [(0, vr g 46), (2, vi v2), (3, vi v3), (4, vi v4)] [] σ := by
        intro v2 v3 v4 h2 h3 h4 hF
        refine loopK_ind (res := res) (P := fun (q : Int × Int) => inR q.1 → inR q.2 → At p l e rm_X10_groupOf s m args below meth c 0 0 g 5 (MQ below (QI g s.heap.size res σ inR) args s 0 0 (AA g s.heap.size)) 17 [(0, vr g 46), (2, vi q.1), (3, vi v3), (4, vi q.2)] [] σ) ?_ N _ hF h2 h4
        intro nx17 q ih17 hF
        obtain ⟨v2, v4⟩ := q
        intro h2 h4
        have hF : F_X10_groupOf_B17 N nx6 nx17 v3 v2 v4 σ = some res := hF
        unfold F_X10_groupOf_B17 at hF
        have J51 : ∀ (v2 : Int) (v3 : Int), inR v2 → inR v3 → F_X10_groupOf_J51 N nx6 v2 v3 σ = some res → At p l e rm_X10_groupOf s m args below meth c 0 0 g 5 (MQ below (QI g s.heap.size res σ inR) args s 0 0 (AA g s.heap.size)) 51 [(0, vr g 46), (2, vi v2), (3, vi v3)] [] σ := by
          intro v2 v3 h2 h3 hF
          unfold F_X10_groupOf_J51 at hF
          refine at_iinc (pc := 51) (lv' := [(3, vi (ja v3 1)), (0, vr g 46), (2, vi v2)]) C 2 dX10_groupOf_51 rfl (Nat.le_of_ble_eq_true rfl) rfl ?_
          refine at_goto (pc := 54) (tgt := 6) C dX10_groupOf_54 rfl ?_
          refine at_sub (lv' := [(0, vr g 46), (2, vi v2), (3, vi (ja v3 1))]) [1, 2, 0] rfl ?_
          exact ih6 _ hF h2 (ja_R v3 1)
        refine at_iload (pc := 17) C 3 dX10_groupOf_17 rfl ?_
        refine at_aload_n (pc := 19) C 0 dX10_groupOf_19 rfl rfl ?_
        refine at_geti (pc := 20) (jz := 5) C fw_10_28 kd46 rfl (Nat.le_of_ble_eq_true rfl) rfl rfl dX10_groupOf_20 ?_
        refine at_icmp_ge (pc := 23) (tgt := 51) C h4 (ok 46 5) dX10_groupOf_23 rfl (fun c2 => ?_) (fun c2 => ?_)
        · have hF := (if_pos c2).symm.trans hF
          refine at_sub (lv' := [(0, vr g 46), (2, vi v2), (3, vi v3)]) [0, 1, 2] rfl ?_
          exact J51 v2 v3 h2 h3 hF
        · have hF := (if_neg c2).symm.trans hF
          have J45 : ∀ (v2 : Int) (v4 : Int), inR v2 → inR v4 → F_X10_groupOf_J45 N nx6 nx17 v2 v3 v4 σ = some res → At p l e rm_X10_groupOf s m args below meth c 0 0 g 5 (MQ below (QI g s.heap.size res σ inR) args s 0 0 (AA g s.heap.size)) 45 [(0, vr g 46), (2, vi v2), (3, vi v3), (4, vi v4)] [] σ := by
            intro v2 v4 h2 h4 hF
            unfold F_X10_groupOf_J45 at hF
            refine at_iinc (pc := 45) (lv' := [(4, vi (ja v4 1)), (0, vr g 46), (2, vi v2), (3, vi v3)]) C 3 dX10_groupOf_45 rfl (Nat.le_of_ble_eq_true rfl) rfl ?_
            refine at_goto (pc := 48) (tgt := 17) C dX10_groupOf_48 rfl ?_
            refine at_sub (lv' := [(0, vr g 46), (2, vi v2), (3, vi v3), (4, vi (ja v4 1))]) [1, 2, 3, 0] rfl ?_
            exact ih17 _ hF h2 (ja_R v4 1)
          refine at_iload_n (pc := 26) C 1 dX10_groupOf_26 rfl rfl ?_
          refine at_iload (pc := 27) C 3 dX10_groupOf_27 rfl ?_
          refine at_ishr (pc := 29) C dX10_groupOf_29 ?_
          refine at_iconst (pc := 30) C dX10_groupOf_30 ?_
          refine at_iand (pc := 31) C dX10_groupOf_31 ?_
          refine at_iconst (pc := 32) C dX10_groupOf_32 ?_
          refine at_icmp_ne (pc := 33) (tgt := 45) C (jand_R (jshr v2 v4) 1) (isB.r (Or.inr rfl)) dX10_groupOf_33 rfl (fun c3 => ?_) (fun c3 => ?_)
          · have hF := (if_neg c3).symm.trans hF
            exact J45 v2 v4 h2 h4 hF
          · have hF := (if_pos c3).symm.trans hF
            refine at_iload_n (pc := 36) C 1 dX10_groupOf_36 rfl rfl ?_
            refine at_aload_n (pc := 37) C 0 dX10_groupOf_37 rfl rfl ?_
            refine at_iload (pc := 38) C 3 dX10_groupOf_38 rfl ?_
            obtain ⟨q4, eq4, hF⟩ := bind_some' hF
            refine at_callV (pc := 40) (ci := 10) C (c_X10_relativesOf l g N v4 σ q4 h4 ok eq4) kv_X10_relativesOf w786 kd46 rfl rfl rfl rfl (Nat.le_of_ble_eq_true rfl) ⟨rfl, rfl, (Nat.le_of_ble_eq_true rfl), (Nat.le_of_ble_eq_true rfl)⟩ dX10_groupOf_40 (fun tq4 okq4 => ?_)
            refine at_ior (pc := 43) C dX10_groupOf_43 ?_
            refine at_istore_n (pc := 44) (lv' := [(2, vi (jor v2 q4)), (0, vr g 46), (3, vi v3), (4, vi v4)]) C dX10_groupOf_44 rfl (Nat.le_of_ble_eq_true rfl) rfl ?_
            refine at_sub (lv' := [(0, vr g 46), (2, vi (jor v2 q4)), (3, vi v3), (4, vi v4)]) [1, 0, 2, 3] rfl ?_
            exact J45 (jor v2 q4) v4 (jor_R v2 q4) h4 hF
      refine at_sub (lv' := [(0, vr g 46), (2, vi v2), (3, vi v3), (4, vi 0)]) [1, 2, 3, 0] rfl ?_
      exact L17 v2 v3 0 h2 h3 (isB.r (Or.inl rfl)) hF
  refine at_sub (lv' := [(0, vr g 46), (2, vi (jshl 1 v1)), (3, vi 0)]) [2, 1, 0] rfl ?_
  exact L6 (jshl 1 v1) 0 (jshl_R 1 v1) (isB.r (Or.inl rfl)) hF
abbrev rm_X10_countGroups : Room := { frames := 2, cells := 0, slots := 0, locals := 47 }
def F_X10_countGroups_J33 (N : Nat) (nx6 : (Int × Int × Int) → Option (Int)) (v1 : Int) (v2 : Int) (v3 : Int) (σ : Sto) : Option (Int) :=
  nx6 (v1, v2, (ja v3 1))
def F_X10_countGroups_B6 (N : Nat) (nx6 : (Int × Int × Int) → Option (Int))  (v1 : Int) (v2 : Int) (v3 : Int) (σ : Sto) : Option (Int) :=
  if (σ.1 46 5) ≤ v3 then (some v2) else (if (jand (jshr v1 v3) 1) = 0 then ((F_X10_groupOf N v3 σ).bind (fun q3 => F_X10_countGroups_J33 N nx6 (jor v1 q3) (ja v2 1) v3 σ)) else (F_X10_countGroups_J33 N nx6 v1 v2 v3 σ))
def F_X10_countGroups (N : Nat)  (σ : Sto) : Option (Int) :=
  loopK (fun q nx6 => F_X10_countGroups_B6 N  nx6  q.1 q.2.1 q.2.2 σ) N (0, 0, 0)
set_option maxHeartbeats 4000000 in
set_option maxRecDepth 100000 in
theorem c_X10_countGroups (l : Launch) (g : Geo) (N : Nat)  (σ : Sto) (res : Int)  (ok : OK σ) (hF : F_X10_countGroups N  σ = some res) : MtI l g yX10_countGroups cX10_countGroups 4 (some .int) rm_X10_countGroups [vr g 46] σ res σ inR := by
  intro sz
  refine Met.ofAt (own := RX10) (QQ := fun z => QI g z res σ inR) (by decide +kernel) (Nat.le_of_ble_eq_true rfl) rfl ?_
  intro p e s m args below meth c C hr hlk
  show At p l e rm_X10_countGroups s m args below meth c 0 0 g 4 (MQ below (QI g s.heap.size res σ inR) args s 0 0 (AA g s.heap.size)) 0 [(0, vr g 46)] [] σ
  unfold F_X10_countGroups at hF
  refine at_iconst (pc := 0) C dX10_countGroups_0 ?_
  refine at_istore_n (pc := 1) (lv' := [(1, vi 0), (0, vr g 46)]) C dX10_countGroups_1 rfl (Nat.le_of_ble_eq_true rfl) rfl ?_
  refine at_iconst (pc := 2) C dX10_countGroups_2 ?_
  refine at_istore_n (pc := 3) (lv' := [(2, vi 0), (1, vi 0), (0, vr g 46)]) C dX10_countGroups_3 rfl (Nat.le_of_ble_eq_true rfl) rfl ?_
  refine at_iconst (pc := 4) C dX10_countGroups_4 ?_
  refine at_istore_n (pc := 5) (lv' := [(3, vi 0), (2, vi 0), (1, vi 0), (0, vr g 46)]) C dX10_countGroups_5 rfl (Nat.le_of_ble_eq_true rfl) rfl ?_
  have L6 : ∀ (v1 : Int) (v2 : Int) (v3 : Int), inR v1 → inR v2 → inR v3 → loopK (fun q nx6 => F_X10_countGroups_B6 N  nx6  q.1 q.2.1 q.2.2 σ) N (v1, v2, v3) = some res → At p l e rm_X10_countGroups s m args below meth c 0 0 g 4 (MQ below (QI g s.heap.size res σ inR) args s 0 0 (AA g s.heap.size)) 6 [(0, vr g 46), (1, vi v1), (2, vi v2), (3, vi v3)] [] σ := by
    intro v1 v2 v3 h1 h2 h3 hF
    refine loopK_ind (res := res) (P := fun (q : Int × Int × Int) => inR q.1 → inR q.2.1 → inR q.2.2 → At p l e rm_X10_countGroups s m args below meth c 0 0 g 4 (MQ below (QI g s.heap.size res σ inR) args s 0 0 (AA g s.heap.size)) 6 [(0, vr g 46), (1, vi q.1), (2, vi q.2.1), (3, vi q.2.2)] [] σ) ?_ N _ hF h1 h2 h3
    intro nx6 q ih6 hF
    obtain ⟨v1, v2, v3⟩ := q
    intro h1 h2 h3
    have hF : F_X10_countGroups_B6 N  nx6  v1 v2 v3 σ = some res := hF
    unfold F_X10_countGroups_B6 at hF
    refine at_iload_n (pc := 6) C 3 dX10_countGroups_6 rfl rfl ?_
    refine at_aload_n (pc := 7) C 0 dX10_countGroups_7 rfl rfl ?_
    refine at_geti (pc := 8) (jz := 5) C fw_10_28 kd46 rfl (Nat.le_of_ble_eq_true rfl) rfl rfl dX10_countGroups_8 ?_
    refine at_icmp_ge (pc := 11) (tgt := 39) C h3 (ok 46 5) dX10_countGroups_11 rfl (fun c1 => ?_) (fun c1 => ?_)
    · have hF := (if_pos c1).symm.trans hF
      refine at_iload_n (pc := 39) C 2 dX10_countGroups_39 rfl rfl ?_
      obtain rfl := Option.some.inj hF
      exact at_iret (pc := 40) C hr hlk h2 ok dX10_countGroups_40
    · have hF := (if_neg c1).symm.trans hF
      have J33 : ∀ (v1 : Int) (v2 : Int) (v3 : Int), inR v1 → inR v2 → inR v3 → F_X10_countGroups_J33 N nx6 v1 v2 v3 σ = some res → At p l e rm_X10_countGroups s m args below meth c 0 0 g 4 (MQ below (QI g s.heap.size res σ inR) args s 0 0 (AA g s.heap.size)) 33 [(0, vr g 46), (1, vi v1), (2, vi v2), (3, vi v3)] [] σ := by
        intro v1 v2 v3 h1 h2 h3 hF
        unfold F_X10_countGroups_J33 at hF
        refine at_iinc (pc := 33) (lv' := [(3, vi (ja v3 1)), (0, vr g 46), (1, vi v1), (2, vi v2)]) C 3 dX10_countGroups_33 rfl (Nat.le_of_ble_eq_true rfl) rfl ?_
        refine at_goto (pc := 36) (tgt := 6) C dX10_countGroups_36 rfl ?_
        refine at_sub (lv' := [(0, vr g 46), (1, vi v1), (2, vi v2), (3, vi (ja v3 1))]) [1, 2, 3, 0] rfl ?_
        exact ih6 _ hF h1 h2 (ja_R v3 1)
      refine at_iload_n (pc := 14) C 1 dX10_countGroups_14 rfl rfl ?_
      refine at_iload_n (pc := 15) C 3 dX10_countGroups_15 rfl rfl ?_
      refine at_ishr (pc := 16) C dX10_countGroups_16 ?_
      refine at_iconst (pc := 17) C dX10_countGroups_17 ?_
      refine at_iand (pc := 18) C dX10_countGroups_18 ?_
      refine at_if_ne (pc := 19) (tgt := 33) C (jand_R (jshr v1 v3) 1) dX10_countGroups_19 rfl (fun c2 => ?_) (fun c2 => ?_)
      · have hF := (if_neg c2).symm.trans hF
        exact J33 v1 v2 v3 h1 h2 h3 hF
      · have hF := (if_pos c2).symm.trans hF
        refine at_iload_n (pc := 22) C 1 dX10_countGroups_22 rfl rfl ?_
        refine at_aload_n (pc := 23) C 0 dX10_countGroups_23 rfl rfl ?_
        refine at_iload_n (pc := 24) C 3 dX10_countGroups_24 rfl rfl ?_
        obtain ⟨q3, eq3, hF⟩ := bind_some' hF
        refine at_callV (pc := 25) (ci := 10) C (c_X10_groupOf l g N v3 σ q3 h3 ok eq3) kv_X10_groupOf w782 kd46 rfl rfl rfl rfl (Nat.le_of_ble_eq_true rfl) ⟨rfl, rfl, (Nat.le_of_ble_eq_true rfl), (Nat.le_of_ble_eq_true rfl)⟩ dX10_countGroups_25 (fun tq3 okq3 => ?_)
        refine at_ior (pc := 28) C dX10_countGroups_28 ?_
        refine at_istore_n (pc := 29) (lv' := [(1, vi (jor v1 q3)), (0, vr g 46), (2, vi v2), (3, vi v3)]) C dX10_countGroups_29 rfl (Nat.le_of_ble_eq_true rfl) rfl ?_
        refine at_iinc (pc := 30) (lv' := [(2, vi (ja v2 1)), (1, vi (jor v1 q3)), (0, vr g 46), (3, vi v3)]) C 2 dX10_countGroups_30 rfl (Nat.le_of_ble_eq_true rfl) rfl ?_
        refine at_sub (lv' := [(0, vr g 46), (1, vi (jor v1 q3)), (2, vi (ja v2 1)), (3, vi v3)]) [2, 1, 0, 3] rfl ?_
        exact J33 (jor v1 q3) (ja v2 1) v3 (jor_R v1 q3) (ja_R v2 1) h3 hF
  refine at_sub (lv' := [(0, vr g 46), (1, vi 0), (2, vi 0), (3, vi 0)]) [3, 2, 1, 0] rfl ?_
  exact L6 0 0 0 (isB.r (Or.inl rfl)) (isB.r (Or.inl rfl)) (isB.r (Or.inl rfl)) hF
abbrev rm_X10_stepsBetween : Room := { frames := 0, cells := 0, slots := 0, locals := 0 }
def F_X10_stepsBetween_J127 (N : Nat)  (v2 : Int) (σ : Sto) : Option (Int × Sto) :=
  inb v2 8 (some ((σ.1 51 v2), σ))
def F_X10_stepsBetween_J121 (N : Nat) (nx2 : (Int × Sto) → Option (Int × Sto)) (v1 : Int) (v2 : Int) (v3 : Int) (σ : Sto) : Option (Int × Sto) :=
  nx2 ((ja v3 1), σ)
def F_X10_stepsBetween_J115 (N : Nat) (nx2 : (Int × Sto) → Option (Int × Sto)) (nx30 : (Int × Sto) → Option (Int × Sto)) (v1 : Int) (v2 : Int) (v3 : Int) (v4 : Int) (σ : Sto) : Option (Int × Sto) :=
  nx30 ((ja v4 1), σ)
def F_X10_stepsBetween_J100 (N : Nat) (nx2 : (Int × Sto) → Option (Int × Sto)) (nx30 : (Int × Sto) → Option (Int × Sto)) (v1 : Int) (v2 : Int) (v3 : Int) (v4 : Int) (σ : Sto) : Option (Int × Sto) :=
  inb v4 8 (inb v3 8 (F_X10_stepsBetween_J115 N nx2 nx30 v1 v2 v3 v4 (upI σ 51 v3 (ja (σ.1 51 v4) 1))))
def F_X10_stepsBetween_J66 (N : Nat) (nx2 : (Int × Sto) → Option (Int × Sto)) (nx30 : (Int × Sto) → Option (Int × Sto)) (v1 : Int) (v2 : Int) (v3 : Int) (v4 : Int) (t0 : Int) (σ : Sto) : Option (Int × Sto) :=
  if t0 = 0 then (F_X10_stepsBetween_J115 N nx2 nx30 v1 v2 v3 v4 σ) else (inb v3 8 (if (σ.1 51 v3) < 0 then (F_X10_stepsBetween_J100 N nx2 nx30 v1 v2 v3 v4 σ) else (inb v4 8 (if (σ.1 51 v3) ≤ (ja (σ.1 51 v4) 1) then (F_X10_stepsBetween_J115 N nx2 nx30 v1 v2 v3 v4 σ) else (F_X10_stepsBetween_J100 N nx2 nx30 v1 v2 v3 v4 σ)))))
def F_X10_stepsBetween_J65 (N : Nat) (nx2 : (Int × Sto) → Option (Int × Sto)) (nx30 : (Int × Sto) → Option (Int × Sto)) (v1 : Int) (v2 : Int) (v3 : Int) (v4 : Int) (σ : Sto) : Option (Int × Sto) :=
  F_X10_stepsBetween_J66 N nx2 nx30 v1 v2 v3 v4 0 σ
def F_X10_stepsBetween_B30 (N : Nat) (nx2 : (Int × Sto) → Option (Int × Sto)) (nx30 : (Int × Sto) → Option (Int × Sto)) (v1 : Int) (v2 : Int) (v3 : Int) (v4 : Int) (σ : Sto) : Option (Int × Sto) :=
  if v3 ≤ v4 then (F_X10_stepsBetween_J121 N nx2 v1 v2 v3 σ) else (inb v4 8 (if (σ.1 51 v4) < 0 then (F_X10_stepsBetween_J65 N nx2 nx30 v1 v2 v3 v4 σ) else (inb (ja (jm v4 8) v3) 64 (if (σ.1 47 (ja (jm v4 8) v3)) ≤ 0 then (F_X10_stepsBetween_J65 N nx2 nx30 v1 v2 v3 v4 σ) else (F_X10_stepsBetween_J66 N nx2 nx30 v1 v2 v3 v4 1 σ)))))
def F_X10_stepsBetween_J26 (N : Nat) (nx2 : (Int × Sto) → Option (Int × Sto)) (v1 : Int) (v2 : Int) (v3 : Int) (t1 : Int) (t2 : Int) (σ : Sto) : Option (Int × Sto) :=
  inb t1 8 (loopK (fun q nx30 => F_X10_stepsBetween_B30 N nx2 nx30 v1 v2 v3 q.1 q.2) N (v1, (upI σ 51 t1 t2)))
def F_X10_stepsBetween_B2 (N : Nat) (nx2 : (Int × Sto) → Option (Int × Sto)) (v1 : Int) (v2 : Int) (v3 : Int) (σ : Sto) : Option (Int × Sto) :=
  if (σ.1 46 5) ≤ v3 then (F_X10_stepsBetween_J127 N  v2 σ) else (if v3 = v1 then (F_X10_stepsBetween_J26 N nx2 v1 v2 v3 v3 0 σ) else (F_X10_stepsBetween_J26 N nx2 v1 v2 v3 v3 (-2) σ))
def F_X10_stepsBetween (N : Nat) (v1 : Int) (v2 : Int) (σ : Sto) : Option (Int × Sto) :=
  loopK (fun q nx2 => F_X10_stepsBetween_B2 N  nx2 v1 v2 q.1 q.2) N (0, σ)
set_option maxHeartbeats 4000000 in
set_option maxRecDepth 100000 in
theorem c_X10_stepsBetween (l : Launch) (g : Geo) (N : Nat) (v1 : Int) (v2 : Int) (σ : Sto) (res : Int × Sto) (h1 : inR v1) (h2 : inR v2) (ok : OK σ) (hF : F_X10_stepsBetween N v1 v2 σ = some res) : MtI l g yX10_stepsBetween cX10_stepsBetween 6 (some .int) rm_X10_stepsBetween [vr g 46, vi v1, vi v2] σ res.1 res.2 inR := by
  intro sz
  refine Met.ofAt (own := RX10) (QQ := fun z => QI g z res.1 res.2 inR) (by decide +kernel) (Nat.le_of_ble_eq_true rfl) rfl ?_
  intro p e s m args below meth c C hr hlk
  show At p l e rm_X10_stepsBetween s m args below meth c 0 0 g 6 (MQ below (QI g s.heap.size res.1 res.2 inR) args s 0 0 (AA g s.heap.size)) 0 [(0, vr g 46), (1, vi v1), (2, vi v2)] [] σ
  unfold F_X10_stepsBetween at hF
  refine at_iconst (pc := 0) C dX10_stepsBetween_0 ?_
  refine at_istore_n (pc := 1) (lv' := [(3, vi 0), (0, vr g 46), (1, vi v1), (2, vi v2)]) C dX10_stepsBetween_1 rfl (Nat.le_of_ble_eq_true rfl) rfl ?_
  have L2 : ∀ (v1 : Int) (v2 : Int) (v3 : Int) (σ : Sto), inR v1 → inR v2 → inR v3 → OK σ → loopK (fun q nx2 => F_X10_stepsBetween_B2 N  nx2 v1 v2 q.1 q.2) N (v3, σ) = some res → At p l e rm_X10_stepsBetween s m args below meth c 0 0 g 6 (MQ below (QI g s.heap.size res.1 res.2 inR) args s 0 0 (AA g s.heap.size)) 2 [(0, vr g 46), (1, vi v1), (2, vi v2), (3, vi v3)] [] σ := by
    intro v1 v2 v3 σ h1 h2 h3 ok hF
    refine loopK_ind (res := res) (P := fun (q : Int × Sto) => inR q.1 → OK q.2 → At p l e rm_X10_stepsBetween s m args below meth c 0 0 g 6 (MQ below (QI g s.heap.size res.1 res.2 inR) args s 0 0 (AA g s.heap.size)) 2 [(0, vr g 46), (1, vi v1), (2, vi v2), (3, vi q.1)] [] q.2) ?_ N _ hF h3 ok
    intro nx2 q ih2 hF
    obtain ⟨v3, σ⟩ := q
    intro h3 ok
    have hF : F_X10_stepsBetween_B2 N  nx2 v1 v2 v3 σ = some res := hF
    unfold F_X10_stepsBetween_B2 at hF
    have J127 : ∀ (v2 : Int) (σ : Sto), inR v2 → OK σ → F_X10_stepsBetween_J127 N  v2 σ = some res → At p l e rm_X10_stepsBetween s m args below meth c 0 0 g 6 (MQ below (QI g s.heap.size res.1 res.2 inR) args s 0 0 (AA g s.heap.size)) 127 [(0, vr g 46), (2, vi v2)] [] σ := by
      intro v2 σ h2 ok hF
      unfold F_X10_stepsBetween_J127 at hF
      refine at_aload_n (pc := 127) C 0 dX10_stepsBetween_127 rfl rfl ?_
      refine at_getr (pc := 128) (k' := 51) C 5 fw_10_25 kd46 rfl (Nat.le_of_ble_eq_true rfl) rfl rfl dX10_stepsBetween_128 ?_
      refine at_iload_n (pc := 131) C 1 dX10_stepsBetween_131 rfl rfl ?_
      obtain ⟨b1, hF⟩ := inb_some hF
      refine at_iaload (pc := 132) C kd51 b1 dX10_stepsBetween_132 ?_
      obtain rfl := Option.some.inj hF
      exact at_iret (pc := 133) C hr hlk (ok 51 v2) ok dX10_stepsBetween_133
    refine at_iload_n (pc := 2) C 3 dX10_stepsBetween_2 rfl rfl ?_
    refine at_aload_n (pc := 3) C 0 dX10_stepsBetween_3 rfl rfl ?_
    refine at_geti (pc := 4) (jz := 5) C fw_10_28 kd46 rfl (Nat.le_of_ble_eq_true rfl) rfl rfl dX10_stepsBetween_4 ?_
    refine at_icmp_ge (pc := 7) (tgt := 127) C h3 (ok 46 5) dX10_stepsBetween_7 rfl (fun c2 => ?_) (fun c2 => ?_)
    · have hF := (if_pos c2).symm.trans hF
      refine at_sub (lv' := [(0, vr g 46), (2, vi v2)]) [0, 2] rfl ?_
      exact J127 v2 σ h2 ok hF
    · have hF := (if_neg c2).symm.trans hF
      have J26 : ∀ (v3 : Int) (t1 : Int) (t2 : Int) (σ : Sto), inR v3 → inR t1 → inR t2 → OK σ → F_X10_stepsBetween_J26 N nx2 v1 v2 v3 t1 t2 σ = some res → At p l e rm_X10_stepsBetween s m args below meth c 0 0 g 6 (MQ below (QI g s.heap.size res.1 res.2 inR) args s 0 0 (AA g s.heap.size)) 26 [(0, vr g 46), (1, vi v1), (2, vi v2), (3, vi v3)] [vi t2, vi t1, vr g 51] σ := by
        intro v3 t1 t2 σ h3 ht1 ht2 ok hF
        unfold F_X10_stepsBetween_J26 at hF
        obtain ⟨b3, hF⟩ := inb_some hF
        refine at_iastore (pc := 26) C kd51 b3 dX10_stepsBetween_26 ?_
        refine at_iload_n (pc := 27) C 1 dX10_stepsBetween_27 rfl rfl ?_
        refine at_istore (pc := 28) (lv' := [(4, vi v1), (0, vr g 46), (1, vi v1), (2, vi v2), (3, vi v3)]) C dX10_stepsBetween_28 (Nat.le_of_ble_eq_true rfl) rfl ?_
        have L30 : ∀ (v3 : Int) (v4 : Int) (σ : Sto), inR v3 → inR v4 → OK σ → loopK (fun q nx30 => F_X10_stepsBetween_B30 N nx2 nx30 v1 v2 v3 q.1 q.2) N (v4, σ) = some res → At p l e rm_X10_stepsBetween s m args below meth c 0 0 g 6 (MQ below (QI g s.heap.size res.1 res.2 inR) args s 0 0 (AA g s.heap.size)) 30 [(0, vr g 46), (1, vi v1), (2, vi v2), (3, vi v3), (4, vi v4)] [] σ := by
          intro v3 v4 σ h3 h4 ok hF
          refine loopK_ind (res := res) (P := fun (q : Int × Sto) => inR q.1 → OK q.2 → At p l e rm_X10_stepsBetween s m args below meth c 0 0 g 6 (MQ below (QI g s.heap.size res.1 res.2 inR) args s 0 0 (AA g s.heap.size)) 30 [(0, vr g 46), (1, vi v1), (2, vi v2), (3, vi v3), (4, vi q.1)] [] q.2) ?_ N _ hF h4 ok
          intro nx30 q ih30 hF
          obtain ⟨v4, σ⟩ := q
          intro h4 ok
          have hF : F_X10_stepsBetween_B30 N nx2 nx30 v1 v2 v3 v4 σ = some res := hF
          unfold F_X10_stepsBetween_B30 at hF
          have J121 : ∀ (v3 : Int) (σ : Sto), inR v3 → OK σ → F_X10_stepsBetween_J121 N nx2 v1 v2 v3 σ = some res → At p l e rm_X10_stepsBetween s m args below meth c 0 0 g 6 (MQ below (QI g s.heap.size res.1 res.2 inR) args s 0 0 (AA g s.heap.size)) 121 [(0, vr g 46), (1, vi v1), (2, vi v2), (3, vi v3)] [] σ := by
            intro v3 σ h3 ok hF
            unfold F_X10_stepsBetween_J121 at hF
            refine at_iinc (pc := 121) (lv' := [(3, vi (ja v3 1)), (0, vr g 46), (1, vi v1), (2, vi v2)]) C 3 dX10_stepsBetween_121 rfl (Nat.le_of_ble_eq_true rfl) rfl ?_
            refine at_goto (pc := 124) (tgt := 2) C dX10_stepsBetween_124 rfl ?_
            refine at_sub (lv' := [(0, vr g 46), (1, vi v1), (2, vi v2), (3, vi (ja v3 1))]) [1, 2, 3, 0] rfl ?_
            exact ih2 _ hF (ja_R v3 1) ok
          refine at_iload (pc := 30) C 4 dX10_stepsBetween_30 rfl ?_
          refine at_iload_n (pc := 32) C 3 dX10_stepsBetween_32 rfl rfl ?_
          refine at_icmp_ge (pc := 33) (tgt := 121) C h4 h3 dX10_stepsBetween_33 rfl (fun c4 => ?_) (fun c4 => ?_)
          · have hF := (if_pos c4).symm.trans hF
            refine at_sub (lv' := [(0, vr g 46), (1, vi v1), (2, vi v2), (3, vi v3)]) [0, 1, 2, 3] rfl ?_
            exact J121 v3 σ h3 ok hF
          · have hF := (if_neg c4).symm.trans hF
            have J66 : ∀ (v4 : Int) (t0 : Int) (σ : Sto), inR v4 → isB t0 → OK σ → F_X10_stepsBetween_J66 N nx2 nx30 v1 v2 v3 v4 t0 σ = some res → At p l e rm_X10_stepsBetween s m args below meth c 0 0 g 6 (MQ below (QI g s.heap.size res.1 res.2 inR) args s 0 0 (AA g s.heap.size)) 66 [(0, vr g 46), (1, vi v1), (2, vi v2), (3, vi v3), (4, vi v4)] [vi t0] σ := by
              intro v4 t0 σ h4 ht0 ok hF
              unfold F_X10_stepsBetween_J66 at hF
              have J115 : ∀ (v4 : Int) (σ : Sto), inR v4 → OK σ → F_X10_stepsBetween_J115 N nx2 nx30 v1 v2 v3 v4 σ = some res → At p l e rm_X10_stepsBetween s m args below meth c 0 0 g 6 (MQ below (QI g s.heap.size res.1 res.2 inR) args s 0 0 (AA g s.heap.size)) 115 [(0, vr g 46), (1, vi v1), (2, vi v2), (3, vi v3), (4, vi v4)] [] σ := by
                intro v4 σ h4 ok hF
                unfold F_X10_stepsBetween_J115 at hF
                refine at_iinc (pc := 115) (lv' := [(4, vi (ja v4 1)), (0, vr g 46), (1, vi v1), (2, vi v2), (3, vi v3)]) C 4 dX10_stepsBetween_115 rfl (Nat.le_of_ble_eq_true rfl) rfl ?_
                refine at_goto (pc := 118) (tgt := 30) C dX10_stepsBetween_118 rfl ?_
                refine at_sub (lv' := [(0, vr g 46), (1, vi v1), (2, vi v2), (3, vi v3), (4, vi (ja v4 1))]) [1, 2, 3, 4, 0] rfl ?_
                exact ih30 _ hF (ja_R v4 1) ok
              refine at_istore (pc := 66) (lv' := [(5, vi t0), (0, vr g 46), (1, vi v1), (2, vi v2), (3, vi v3), (4, vi v4)]) C dX10_stepsBetween_66 (Nat.le_of_ble_eq_true rfl) rfl ?_
              refine at_iload (pc := 68) C 0 dX10_stepsBetween_68 rfl ?_
              refine at_if_eq (pc := 70) (tgt := 115) C (isB.r ht0) dX10_stepsBetween_70 rfl (fun c5 => ?_) (fun c5 => ?_)
              · have hF := (if_pos c5).symm.trans hF
                refine at_sub (lv' := [(0, vr g 46), (1, vi v1), (2, vi v2), (3, vi v3), (4, vi v4)]) [1, 2, 3, 4, 5] rfl ?_
                exact J115 v4 σ h4 ok hF
              · have hF := (if_neg c5).symm.trans hF
                have J100 : ∀ (v4 : Int) (σ : Sto), inR v4 → OK σ → F_X10_stepsBetween_J100 N nx2 nx30 v1 v2 v3 v4 σ = some res → At p l e rm_X10_stepsBetween s m args below meth c 0 0 g 6 (MQ below (QI g s.heap.size res.1 res.2 inR) args s 0 0 (AA g s.heap.size)) 100 [(0, vr g 46), (1, vi v1), (2, vi v2), (3, vi v3), (4, vi v4)] [] σ := by
                  intro v4 σ h4 ok hF
                  unfold F_X10_stepsBetween_J100 at hF
                  refine at_aload_n (pc := 100) C 0 dX10_stepsBetween_100 rfl rfl ?_
                  refine at_getr (pc := 101) (k' := 51) C 5 fw_10_25 kd46 rfl (Nat.le_of_ble_eq_true rfl) rfl rfl dX10_stepsBetween_101 ?_
                  refine at_iload_n (pc := 104) C 3 dX10_stepsBetween_104 rfl rfl ?_
                  refine at_aload_n (pc := 105) C 0 dX10_stepsBetween_105 rfl rfl ?_
                  refine at_getr (pc := 106) (k' := 51) C 5 fw_10_25 kd46 rfl (Nat.le_of_ble_eq_true rfl) rfl rfl dX10_stepsBetween_106 ?_
                  refine at_iload (pc := 109) C 4 dX10_stepsBetween_109 rfl ?_
                  obtain ⟨b6, hF⟩ := inb_some hF
                  refine at_iaload (pc := 111) C kd51 b6 dX10_stepsBetween_111 ?_
                  refine at_iconst (pc := 112) C dX10_stepsBetween_112 ?_
                  refine at_iadd (pc := 113) C dX10_stepsBetween_113 ?_
                  obtain ⟨b7, hF⟩ := inb_some hF
                  refine at_iastore (pc := 114) C kd51 b7 dX10_stepsBetween_114 ?_
                  exact J115 v4 (upI σ 51 v3 (ja (σ.1 51 v4) 1)) h4 (OK_up (k := 51) (j := v3) ok (ja_R (σ.1 51 v4) 1)) hF
                refine at_aload_n (pc := 73) C 1 dX10_stepsBetween_73 rfl rfl ?_
                refine at_getr (pc := 74) (k' := 51) C 5 fw_10_25 kd46 rfl (Nat.le_of_ble_eq_true rfl) rfl rfl dX10_stepsBetween_74 ?_
                refine at_iload_n (pc := 77) C 4 dX10_stepsBetween_77 rfl rfl ?_
                obtain ⟨b8, hF⟩ := inb_some hF
                refine at_iaload (pc := 78) C kd51 b8 dX10_stepsBetween_78 ?_
                refine at_if_lt (pc := 79) (tgt := 100) C (ok 51 v3) dX10_stepsBetween_79 rfl (fun c9 => ?_) (fun c9 => ?_)
                · have hF := (if_pos c9).symm.trans hF
                  refine at_sub (lv' := [(0, vr g 46), (1, vi v1), (2, vi v2), (3, vi v3), (4, vi v4)]) [1, 2, 3, 4, 5] rfl ?_
                  exact J100 v4 σ h4 ok hF
                · have hF := (if_neg c9).symm.trans hF
                  refine at_aload_n (pc := 82) C 1 dX10_stepsBetween_82 rfl rfl ?_
                  refine at_getr (pc := 83) (k' := 51) C 5 fw_10_25 kd46 rfl (Nat.le_of_ble_eq_true rfl) rfl rfl dX10_stepsBetween_83 ?_
                  refine at_iload (pc := 86) C 5 dX10_stepsBetween_86 rfl ?_
                  obtain ⟨b10, hF⟩ := inb_some hF
                  refine at_iaload (pc := 88) C kd51 b10 dX10_stepsBetween_88 ?_
                  refine at_iconst (pc := 89) C dX10_stepsBetween_89 ?_
                  refine at_iadd (pc := 90) C dX10_stepsBetween_90 ?_
                  refine at_aload_n (pc := 91) C 1 dX10_stepsBetween_91 rfl rfl ?_
                  refine at_getr (pc := 92) (k' := 51) C 5 fw_10_25 kd46 rfl (Nat.le_of_ble_eq_true rfl) rfl rfl dX10_stepsBetween_92 ?_
                  refine at_iload_n (pc := 95) C 4 dX10_stepsBetween_95 rfl rfl ?_
                  refine at_iaload (pc := 96) C kd51 b8 dX10_stepsBetween_96 ?_
                  refine at_icmp_ge (pc := 97) (tgt := 115) C (ja_R (σ.1 51 v4) 1) (ok 51 v3) dX10_stepsBetween_97 rfl (fun c11 => ?_) (fun c11 => ?_)
                  · have hF := (if_pos c11).symm.trans hF
                    refine at_sub (lv' := [(0, vr g 46), (1, vi v1), (2, vi v2), (3, vi v3), (4, vi v4)]) [1, 2, 3, 4, 5] rfl ?_
                    exact J115 v4 σ h4 ok hF
                  · have hF := (if_neg c11).symm.trans hF
                    refine at_sub (lv' := [(0, vr g 46), (1, vi v1), (2, vi v2), (3, vi v3), (4, vi v4)]) [1, 2, 3, 4, 5] rfl ?_
                    exact J100 v4 σ h4 ok hF
            have J65 : ∀ (v4 : Int) (σ : Sto), inR v4 → OK σ → F_X10_stepsBetween_J65 N nx2 nx30 v1 v2 v3 v4 σ = some res → At p l e rm_X10_stepsBetween s m args below meth c 0 0 g 6 (MQ below (QI g s.heap.size res.1 res.2 inR) args s 0 0 (AA g s.heap.size)) 65 [(0, vr g 46), (1, vi v1), (2, vi v2), (3, vi v3), (4, vi v4)] [] σ := by
              intro v4 σ h4 ok hF
              unfold F_X10_stepsBetween_J65 at hF
              refine at_iconst (pc := 65) C dX10_stepsBetween_65 ?_
              exact J66 v4 0 σ h4 (Or.inl rfl) ok hF
            refine at_aload_n (pc := 36) C 0 dX10_stepsBetween_36 rfl rfl ?_
            refine at_getr (pc := 37) (k' := 51) C 5 fw_10_25 kd46 rfl (Nat.le_of_ble_eq_true rfl) rfl rfl dX10_stepsBetween_37 ?_
            refine at_iload (pc := 40) C 4 dX10_stepsBetween_40 rfl ?_
            obtain ⟨b12, hF⟩ := inb_some hF
            refine at_iaload (pc := 42) C kd51 b12 dX10_stepsBetween_42 ?_
            refine at_if_lt (pc := 43) (tgt := 65) C (ok 51 v4) dX10_stepsBetween_43 rfl (fun c13 => ?_) (fun c13 => ?_)
            · have hF := (if_pos c13).symm.trans hF
              exact J65 v4 σ h4 ok hF
            · have hF := (if_neg c13).symm.trans hF
              refine at_aload_n (pc := 46) C 0 dX10_stepsBetween_46 rfl rfl ?_
              refine at_getr (pc := 47) (k' := 47) C 1 fw_10_9 kd46 rfl (Nat.le_of_ble_eq_true rfl) rfl rfl dX10_stepsBetween_47 ?_
              refine at_iload (pc := 50) C 4 dX10_stepsBetween_50 rfl ?_
              refine at_bipush (pc := 52) C dX10_stepsBetween_52 (by decide) ?_
              refine at_imul (pc := 54) C dX10_stepsBetween_54 ?_
              refine at_iload_n (pc := 55) C 3 dX10_stepsBetween_55 rfl rfl ?_
              refine at_iadd (pc := 56) C dX10_stepsBetween_56 ?_
              obtain ⟨b14, hF⟩ := inb_some hF
              refine at_iaload (pc := 57) C kd47 b14 dX10_stepsBetween_57 ?_
              refine at_if_le (pc := 58) (tgt := 65) C (ok 47 (ja (jm v4 8) v3)) dX10_stepsBetween_58 rfl (fun c15 => ?_) (fun c15 => ?_)
              · have hF := (if_pos c15).symm.trans hF
                exact J65 v4 σ h4 ok hF
              · have hF := (if_neg c15).symm.trans hF
                refine at_iconst (pc := 61) C dX10_stepsBetween_61 ?_
                refine at_goto (pc := 62) (tgt := 66) C dX10_stepsBetween_62 rfl ?_
                exact J66 v4 1 σ h4 (Or.inr rfl) ok hF
        refine at_sub (lv' := [(0, vr g 46), (1, vi v1), (2, vi v2), (3, vi v3), (4, vi v1)]) [1, 2, 3, 4, 0] rfl ?_
        exact L30 v3 v1 (upI σ 51 t1 t2) h3 h1 (OK_up (k := 51) (j := t1) ok ht2) hF
      refine at_aload_n (pc := 10) C 0 dX10_stepsBetween_10 rfl rfl ?_
      refine at_getr (pc := 11) (k' := 51) C 5 fw_10_25 kd46 rfl (Nat.le_of_ble_eq_true rfl) rfl rfl dX10_stepsBetween_11 ?_
      refine at_iload_n (pc := 14) C 3 dX10_stepsBetween_14 rfl rfl ?_
      refine at_iload_n (pc := 15) C 3 dX10_stepsBetween_15 rfl rfl ?_
      refine at_iload_n (pc := 16) C 1 dX10_stepsBetween_16 rfl rfl ?_
      refine at_icmp_ne (pc := 17) (tgt := 24) C h3 h1 dX10_stepsBetween_17 rfl (fun c16 => ?_) (fun c16 => ?_)
      · have hF := (if_neg c16).symm.trans hF
        refine at_bipush (pc := 24) C dX10_stepsBetween_24 (by decide) ?_
        exact J26 v3 v3 (-2) σ h3 h3 (show inR (-2) from ⟨by decide, by decide⟩) ok hF
      · have hF := (if_pos c16).symm.trans hF
        refine at_iconst (pc := 20) C dX10_stepsBetween_20 ?_
        refine at_goto (pc := 21) (tgt := 26) C dX10_stepsBetween_21 rfl ?_
        exact J26 v3 v3 0 σ h3 h3 (isB.r (Or.inl rfl)) ok hF
  refine at_sub (lv' := [(0, vr g 46), (1, vi v1), (2, vi v2), (3, vi 0)]) [1, 2, 3, 0] rfl ?_
  exact L2 v1 v2 0 σ h1 h2 (isB.r (Or.inl rfl)) ok hF
abbrev rm_X11_feed : Room := { frames := 1, cells := 0, slots := 0, locals := 22 }
def F_X11_feed (N : Nat) (v1 : Int) (v2 : Int) (v3 : Int) (v4 : Int) (v5 : Int) (σ : Sto) : Option (Int × Sto) :=
  if (ja (σ.1 1 1) 20) ≤ 700 then ((F_X8_put N v1 σ).bind (fun q2 => (F_X8_put N v2 q2).bind (fun q3 => (F_X8_put N v3 q3).bind (fun q4 => (F_X8_put N v4 q4).bind (fun q5 => (F_X8_put N v5 q5).bind (fun q6 => some ((q6.1 1 1), q6))))))) else (some ((-1), σ))
set_option maxHeartbeats 4000000 in
set_option maxRecDepth 100000 in
theorem c_X11_feed (l : Launch) (g : Geo) (N : Nat) (v1 : Int) (v2 : Int) (v3 : Int) (v4 : Int) (v5 : Int) (σ : Sto) (res : Int × Sto) (h1 : inR v1) (h2 : inR v2) (h3 : inR v3) (h4 : inR v4) (h5 : inR v5) (ok : OK σ) (hF : F_X11_feed N v1 v2 v3 v4 v5 σ = some res) : MtI l g yX11_feed cX11_feed 6 (some .int) rm_X11_feed [vr g 0, vi v1, vi v2, vi v3, vi v4, vi v5] σ res.1 res.2 inR := by
  intro sz
  refine Met.ofAt (own := RX11) (QQ := fun z => QI g z res.1 res.2 inR) (by decide +kernel) (Nat.le_of_ble_eq_true rfl) rfl ?_
  intro p e s m args below meth c C hr hlk
  show At p l e rm_X11_feed s m args below meth c 0 0 g 6 (MQ below (QI g s.heap.size res.1 res.2 inR) args s 0 0 (AA g s.heap.size)) 0 [(0, vr g 0), (1, vi v1), (2, vi v2), (3, vi v3), (4, vi v4), (5, vi v5)] [] σ
  unfold F_X11_feed at hF
  refine at_aload_n (pc := 0) C 0 dX11_feed_0 rfl rfl ?_
  refine at_getr (pc := 1) (k' := 1) C 1 fw_11_10 kd0 rfl (Nat.le_of_ble_eq_true rfl) rfl rfl dX11_feed_1 ?_
  refine at_geti (pc := 4) (jz := 1) C fw_11_105 kd1 rfl (Nat.le_of_ble_eq_true rfl) rfl rfl dX11_feed_4 ?_
  refine at_bipush (pc := 7) C dX11_feed_7 (by decide) ?_
  refine at_iadd (pc := 9) C dX11_feed_9 ?_
  refine at_sipush (pc := 10) C dX11_feed_10 (by decide) ?_
  refine at_icmp_le (pc := 13) (tgt := 18) C (ja_R (σ.1 1 1) 20) (show inR 700 from ⟨by decide, by decide⟩) dX11_feed_13 rfl (fun c1 => ?_) (fun c1 => ?_)
  · have hF := (if_pos c1).symm.trans hF
    refine at_aload_n (pc := 18) C 0 dX11_feed_18 rfl rfl ?_
    refine at_getr (pc := 19) (k' := 1) C 1 fw_11_10 kd0 rfl (Nat.le_of_ble_eq_true rfl) rfl rfl dX11_feed_19 ?_
    refine at_iload_n (pc := 22) C 1 dX11_feed_22 rfl rfl ?_
    obtain ⟨q2, eq2, hF⟩ := bind_some' hF
    refine at_callVv (pc := 23) (ci := 8) C (c_X8_put l g N v1 σ q2 h1 ok eq2) kv_X8_put w577 kd1 rfl rfl rfl rfl (Nat.le_of_ble_eq_true rfl) ⟨rfl, rfl, (Nat.le_of_ble_eq_true rfl), (Nat.le_of_ble_eq_true rfl)⟩ dX11_feed_23 (fun okq2 => ?_)
    refine at_aload_n (pc := 26) C 0 dX11_feed_26 rfl rfl ?_
    refine at_getr (pc := 27) (k' := 1) C 1 fw_11_10 kd0 rfl (Nat.le_of_ble_eq_true rfl) rfl rfl dX11_feed_27 ?_
    refine at_iload_n (pc := 30) C 2 dX11_feed_30 rfl rfl ?_
    obtain ⟨q3, eq3, hF⟩ := bind_some' hF
    refine at_callVv (pc := 31) (ci := 8) C (c_X8_put l g N v2 q2 q3 h2 okq2 eq3) kv_X8_put w577 kd1 rfl rfl rfl rfl (Nat.le_of_ble_eq_true rfl) ⟨rfl, rfl, (Nat.le_of_ble_eq_true rfl), (Nat.le_of_ble_eq_true rfl)⟩ dX11_feed_31 (fun okq3 => ?_)
    refine at_aload_n (pc := 34) C 0 dX11_feed_34 rfl rfl ?_
    refine at_getr (pc := 35) (k' := 1) C 1 fw_11_10 kd0 rfl (Nat.le_of_ble_eq_true rfl) rfl rfl dX11_feed_35 ?_
    refine at_iload_n (pc := 38) C 3 dX11_feed_38 rfl rfl ?_
    obtain ⟨q4, eq4, hF⟩ := bind_some' hF
    refine at_callVv (pc := 39) (ci := 8) C (c_X8_put l g N v3 q3 q4 h3 okq3 eq4) kv_X8_put w577 kd1 rfl rfl rfl rfl (Nat.le_of_ble_eq_true rfl) ⟨rfl, rfl, (Nat.le_of_ble_eq_true rfl), (Nat.le_of_ble_eq_true rfl)⟩ dX11_feed_39 (fun okq4 => ?_)
    refine at_aload_n (pc := 42) C 0 dX11_feed_42 rfl rfl ?_
    refine at_getr (pc := 43) (k' := 1) C 1 fw_11_10 kd0 rfl (Nat.le_of_ble_eq_true rfl) rfl rfl dX11_feed_43 ?_
    refine at_iload (pc := 46) C 4 dX11_feed_46 rfl ?_
    obtain ⟨q5, eq5, hF⟩ := bind_some' hF
    refine at_callVv (pc := 48) (ci := 8) C (c_X8_put l g N v4 q4 q5 h4 okq4 eq5) kv_X8_put w577 kd1 rfl rfl rfl rfl (Nat.le_of_ble_eq_true rfl) ⟨rfl, rfl, (Nat.le_of_ble_eq_true rfl), (Nat.le_of_ble_eq_true rfl)⟩ dX11_feed_48 (fun okq5 => ?_)
    refine at_aload_n (pc := 51) C 0 dX11_feed_51 rfl rfl ?_
    refine at_getr (pc := 52) (k' := 1) C 1 fw_11_10 kd0 rfl (Nat.le_of_ble_eq_true rfl) rfl rfl dX11_feed_52 ?_
    refine at_iload (pc := 55) C 5 dX11_feed_55 rfl ?_
    obtain ⟨q6, eq6, hF⟩ := bind_some' hF
    refine at_callVv (pc := 57) (ci := 8) C (c_X8_put l g N v5 q5 q6 h5 okq5 eq6) kv_X8_put w577 kd1 rfl rfl rfl rfl (Nat.le_of_ble_eq_true rfl) ⟨rfl, rfl, (Nat.le_of_ble_eq_true rfl), (Nat.le_of_ble_eq_true rfl)⟩ dX11_feed_57 (fun okq6 => ?_)
    refine at_aload_n (pc := 60) C 0 dX11_feed_60 rfl rfl ?_
    refine at_getr (pc := 61) (k' := 1) C 1 fw_11_10 kd0 rfl (Nat.le_of_ble_eq_true rfl) rfl rfl dX11_feed_61 ?_
    refine at_geti (pc := 64) (jz := 1) C fw_11_105 kd1 rfl (Nat.le_of_ble_eq_true rfl) rfl rfl dX11_feed_64 ?_
    obtain rfl := Option.some.inj hF
    exact at_iret (pc := 67) C hr hlk (okq6 1 1) okq6 dX11_feed_67
  · have hF := (if_neg c1).symm.trans hF
    refine at_iconst (pc := 16) C dX11_feed_16 ?_
    obtain rfl := Option.some.inj hF
    exact at_iret (pc := 17) C hr hlk (show inR (-1) from ⟨by decide, by decide⟩) ok dX11_feed_17
abbrev rm_X11_forgetNet : Room := { frames := 0, cells := 0, slots := 0, locals := 0 }
def F_X11_forgetNet (N : Nat)  (σ : Sto) : Option (Sto) :=
  some (upI (upI σ 0 16 0) 0 17 0)
set_option maxHeartbeats 4000000 in
set_option maxRecDepth 100000 in
theorem c_X11_forgetNet (l : Launch) (g : Geo) (N : Nat)  (σ : Sto) (res : Sto)  (ok : OK σ) (hF : F_X11_forgetNet N  σ = some res) : MtV l g yX11_forgetNet cX11_forgetNet 1 none rm_X11_forgetNet [vr g 0] σ res := by
  intro sz
  refine Met.ofAt (own := RX11) (QQ := fun z => QV g z res) (by decide +kernel) (Nat.le_of_ble_eq_true rfl) rfl ?_
  intro p e s m args below meth c C hr hlk
  show At p l e rm_X11_forgetNet s m args below meth c 0 0 g 1 (MQ below (QV g s.heap.size res) args s 0 0 (AA g s.heap.size)) 0 [(0, vr g 0)] [] σ
  unfold F_X11_forgetNet at hF
  refine at_aload_n (pc := 0) C 0 dX11_forgetNet_0 rfl rfl ?_
  refine at_iconst (pc := 1) C dX11_forgetNet_1 ?_
  refine at_putz (pc := 2) (jz := 16) C fu_11_98 kd0 rfl (Nat.le_of_ble_eq_true rfl) rfl (Or.inl rfl) rfl dX11_forgetNet_2 ?_
  refine at_aload_n (pc := 5) C 0 dX11_forgetNet_5 rfl rfl ?_
  refine at_iconst (pc := 6) C dX11_forgetNet_6 ?_
  refine at_putz (pc := 7) (jz := 17) C fu_11_102 kd0 rfl (Nat.le_of_ble_eq_true rfl) rfl (Or.inl rfl) rfl dX11_forgetNet_7 ?_
  obtain rfl := Option.some.inj hF
  exact at_vret (pc := 10) C hr hlk (OK_up (k := 0) (j := 17) (OK_up (k := 0) (j := 16) ok (isB.r (Or.inl rfl))) (isB.r (Or.inl rfl))) dX11_forgetNet_10
abbrev rm_X11_text : Room := { frames := 7, cells := 0, slots := 0, locals := 154 }
def F_X11_text (N : Nat) (v1 : Int) (σ : Sto) : Option (Int × Sto) :=
  if v1 < 0 then (some ((-2), σ)) else (if v1 ≤ (σ.1 1 1) then (asB (σ.1 0 2) (fun b3 => (F_X8_read N b3 v1 σ).bind (fun q4 => if q4.1 = 0 then (some ((-1), q4.2)) else (asB (q4.2.1 0 2) (fun b6 => asB (q4.2.1 0 1) (fun b7 => (F_X5_clear N 29 (upI (upI q4.2 0 2 (b7 : Int)) 0 1 (b6 : Int))).bind (fun q8 => (F_X2_clear N q8).bind (fun q9 => (F_X11_forgetNet N (upI q9 35 3 0)).bind (fun q10 => some ((q10.1 1 7), q10)))))))))) else (some ((-2), σ)))
set_option maxHeartbeats 4000000 in
set_option maxRecDepth 100000 in
theorem c_X11_text (l : Launch) (g : Geo) (N : Nat) (v1 : Int) (σ : Sto) (res : Int × Sto) (h1 : inR v1) (ok : OK σ) (hF : F_X11_text N v1 σ = some res) : MtI l g yX11_text cX11_text 4 (some .int) rm_X11_text [vr g 0, vi v1] σ res.1 res.2 inR := by
  intro sz
  refine Met.ofAt (own := RX11) (QQ := fun z => QI g z res.1 res.2 inR) (by decide +kernel) (Nat.le_of_ble_eq_true rfl) rfl ?_
  intro p e s m args below meth c C hr hlk
  show At p l e rm_X11_text s m args below meth c 0 0 g 4 (MQ below (QI g s.heap.size res.1 res.2 inR) args s 0 0 (AA g s.heap.size)) 0 [(0, vr g 0), (1, vi v1)] [] σ
  unfold F_X11_text at hF
  refine at_iload_n (pc := 0) C 1 dX11_text_0 rfl rfl ?_
  refine at_if_lt (pc := 1) (tgt := 15) C h1 dX11_text_1 rfl (fun c1 => ?_) (fun c1 => ?_)
  · have hF := (if_pos c1).symm.trans hF
    refine at_bipush (pc := 15) C dX11_text_15 (by decide) ?_
    obtain rfl := Option.some.inj hF
    exact at_iret (pc := 17) C hr hlk (show inR (-2) from ⟨by decide, by decide⟩) ok dX11_text_17
  · have hF := (if_neg c1).symm.trans hF
    refine at_iload_n (pc := 4) C 1 dX11_text_4 rfl rfl ?_
    refine at_aload_n (pc := 5) C 0 dX11_text_5 rfl rfl ?_
    refine at_getr (pc := 6) (k' := 1) C 1 fw_11_10 kd0 rfl (Nat.le_of_ble_eq_true rfl) rfl rfl dX11_text_6 ?_
    refine at_geti (pc := 9) (jz := 1) C fw_11_105 kd1 rfl (Nat.le_of_ble_eq_true rfl) rfl rfl dX11_text_9 ?_
    refine at_icmp_le (pc := 12) (tgt := 18) C h1 (ok 1 1) dX11_text_12 rfl (fun c2 => ?_) (fun c2 => ?_)
    · have hF := (if_pos c2).symm.trans hF
      refine at_aload_n (pc := 18) C 0 dX11_text_18 rfl rfl ?_
      refine at_getr (pc := 19) (k' := 1) C 1 fw_11_10 kd0 rfl (Nat.le_of_ble_eq_true rfl) rfl rfl dX11_text_19 ?_
      refine at_aload_n (pc := 22) C 0 dX11_text_22 rfl rfl ?_
      obtain ⟨b3, eb3, kb3, hF⟩ := asB_some hF
      refine at_getd (pc := 23) (jz := 2) (k2 := b3) C fw_11_23 kd0 rfl (Nat.le_of_ble_eq_true rfl) rfl rfl eb3 dX11_text_23 ?_
      refine at_iload_n (pc := 26) C 1 dX11_text_26 rfl rfl ?_
      obtain ⟨q4, eq4, hF⟩ := bind_some' hF
      refine at_callV (pc := 27) (ci := 8) C (c_X8_read l g N b3 v1 σ q4 kb3 h1 ok eq4) kv_X8_read w585 kd1 rfl rfl rfl rfl (Nat.le_of_ble_eq_true rfl) ⟨rfl, rfl, (Nat.le_of_ble_eq_true rfl), (Nat.le_of_ble_eq_true rfl)⟩ dX11_text_27 (fun tq4 okq4 => ?_)
      refine at_istore_n (pc := 30) (lv' := [(2, vi q4.1), (0, vr g 0), (1, vi v1)]) C dX11_text_30 rfl (Nat.le_of_ble_eq_true rfl) rfl ?_
      refine at_iload_n (pc := 31) C 0 dX11_text_31 rfl rfl ?_
      refine at_if_ne (pc := 32) (tgt := 37) C (isB.r tq4) dX11_text_32 rfl (fun c5 => ?_) (fun c5 => ?_)
      · have hF := (if_neg c5).symm.trans hF
        refine at_aload_n (pc := 37) C 1 dX11_text_37 rfl rfl ?_
        obtain ⟨b6, eb6, kb6, hF⟩ := asB_some hF
        refine at_getd (pc := 38) (jz := 2) (k2 := b6) C fw_11_23 kd0 rfl (Nat.le_of_ble_eq_true rfl) rfl rfl eb6 dX11_text_38 ?_
        refine at_astore_n (pc := 41) (lv' := [(3, vr g b6), (2, vi q4.1), (0, vr g 0), (1, vi v1)]) C dX11_text_41 rfl (Nat.le_of_ble_eq_true rfl) rfl ?_
        refine at_aload_n (pc := 42) C 2 dX11_text_42 rfl rfl ?_
        refine at_aload_n (pc := 43) C 2 dX11_text_43 rfl rfl ?_
        obtain ⟨b7, eb7, kb7, hF⟩ := asB_some hF
        refine at_getd (pc := 44) (jz := 1) (k2 := b7) C fw_11_19 kd0 rfl (Nat.le_of_ble_eq_true rfl) rfl rfl eb7 dX11_text_44 ?_
        refine at_putd (pc := 47) (jz := 2) C fu_11_23 kd0 rfl (Nat.le_of_ble_eq_true rfl) rfl rfl dX11_text_47 ?_
        refine at_aload_n (pc := 50) C 2 dX11_text_50 rfl rfl ?_
        refine at_aload_n (pc := 51) C 0 dX11_text_51 rfl rfl ?_
        refine at_putd (pc := 52) (jz := 1) C fu_11_19 kd0 rfl (Nat.le_of_ble_eq_true rfl) rfl rfl dX11_text_52 ?_
        refine at_aload_n (pc := 55) C 2 dX11_text_55 rfl rfl ?_
        refine at_getr (pc := 56) (k' := 29) C 29 fw_11_29 kd0 rfl (Nat.le_of_ble_eq_true rfl) rfl rfl dX11_text_56 ?_
        obtain ⟨q8, eq8, hF⟩ := bind_some' hF
        refine at_callVv (pc := 59) (ci := 5) C (c_X5_clear l g N 29 (upI (upI q4.2 0 2 (b7 : Int)) 0 1 (b6 : Int)) q8 kd29 (OK_up (k := 0) (j := 1) (OK_up (k := 0) (j := 2) okq4 (kinR kb7)) (kinR kb6)) eq8) kv_X5_clear w671 kd29 rfl rfl rfl rfl (Nat.le_of_ble_eq_true rfl) ⟨rfl, rfl, (Nat.le_of_ble_eq_true rfl), (Nat.le_of_ble_eq_true rfl)⟩ dX11_text_59 (fun okq8 => ?_)
        refine at_aload_n (pc := 62) C 2 dX11_text_62 rfl rfl ?_
        refine at_getr (pc := 63) (k' := 33) C 33 fw_11_36 kd0 rfl (Nat.le_of_ble_eq_true rfl) rfl rfl dX11_text_63 ?_
        obtain ⟨q9, eq9, hF⟩ := bind_some' hF
        refine at_callVv (pc := 66) (ci := 2) C (c_X2_clear l g N  q8 q9  okq8 eq9) kv_X2_clear w675 kd33 rfl rfl rfl rfl (Nat.le_of_ble_eq_true rfl) ⟨rfl, rfl, (Nat.le_of_ble_eq_true rfl), (Nat.le_of_ble_eq_true rfl)⟩ dX11_text_66 (fun okq9 => ?_)
        refine at_aload_n (pc := 69) C 2 dX11_text_69 rfl rfl ?_
        refine at_getr (pc := 70) (k' := 35) C 35 fw_11_43 kd0 rfl (Nat.le_of_ble_eq_true rfl) rfl rfl dX11_text_70 ?_
        refine at_iconst (pc := 73) C dX11_text_73 ?_
        refine at_putz (pc := 74) (jz := 3) C fu_11_121 kd35 rfl (Nat.le_of_ble_eq_true rfl) rfl (Or.inl rfl) rfl dX11_text_74 ?_
        refine at_aload_n (pc := 77) C 2 dX11_text_77 rfl rfl ?_
        obtain ⟨q10, eq10, hF⟩ := bind_some' hF
        refine at_callVv (pc := 78) (ci := 11) C (c_X11_forgetNet l g N  (upI q9 35 3 0) q10  (OK_up (k := 35) (j := 3) okq9 (isB.r (Or.inl rfl))) eq10) kv_X11_forgetNet w679 kd0 rfl rfl rfl rfl (Nat.le_of_ble_eq_true rfl) ⟨rfl, rfl, (Nat.le_of_ble_eq_true rfl), (Nat.le_of_ble_eq_true rfl)⟩ dX11_text_78 (fun okq10 => ?_)
        refine at_aload_n (pc := 81) C 2 dX11_text_81 rfl rfl ?_
        refine at_getr (pc := 82) (k' := 1) C 1 fw_11_10 kd0 rfl (Nat.le_of_ble_eq_true rfl) rfl rfl dX11_text_82 ?_
        refine at_geti (pc := 85) (jz := 7) C fw_11_127 kd1 rfl (Nat.le_of_ble_eq_true rfl) rfl rfl dX11_text_85 ?_
        obtain rfl := Option.some.inj hF
        exact at_iret (pc := 88) C hr hlk (okq10 1 7) okq10 dX11_text_88
      · have hF := (if_pos c5).symm.trans hF
        refine at_iconst (pc := 35) C dX11_text_35 ?_
        obtain rfl := Option.some.inj hF
        exact at_iret (pc := 36) C hr hlk (show inR (-1) from ⟨by decide, by decide⟩) okq4 dX11_text_36
    · have hF := (if_neg c2).symm.trans hF
      refine at_bipush (pc := 15) C dX11_text_15 (by decide) ?_
      obtain rfl := Option.some.inj hF
      exact at_iret (pc := 17) C hr hlk (show inR (-2) from ⟨by decide, by decide⟩) ok dX11_text_17
abbrev rm_X11_fault : Room := { frames := 0, cells := 0, slots := 0, locals := 0 }
def F_X11_fault (N : Nat) (v1 : Int) (σ : Sto) : Option (Int) :=
  if v1 = 0 then (some (σ.1 1 9)) else (if v1 = 1 then (some (σ.1 1 10)) else (some (-1)))
set_option maxHeartbeats 4000000 in
set_option maxRecDepth 100000 in
theorem c_X11_fault (l : Launch) (g : Geo) (N : Nat) (v1 : Int) (σ : Sto) (res : Int) (h1 : inR v1) (ok : OK σ) (hF : F_X11_fault N v1 σ = some res) : MtI l g yX11_fault cX11_fault 2 (some .int) rm_X11_fault [vr g 0, vi v1] σ res σ inR := by
  intro sz
  refine Met.ofAt (own := RX11) (QQ := fun z => QI g z res σ inR) (by decide +kernel) (Nat.le_of_ble_eq_true rfl) rfl ?_
  intro p e s m args below meth c C hr hlk
  show At p l e rm_X11_fault s m args below meth c 0 0 g 2 (MQ below (QI g s.heap.size res σ inR) args s 0 0 (AA g s.heap.size)) 0 [(0, vr g 0), (1, vi v1)] [] σ
  unfold F_X11_fault at hF
  refine at_iload_n (pc := 0) C 1 dX11_fault_0 rfl rfl ?_
  refine at_if_ne (pc := 1) (tgt := 12) C h1 dX11_fault_1 rfl (fun c1 => ?_) (fun c1 => ?_)
  · have hF := (if_neg c1).symm.trans hF
    refine at_iload_n (pc := 12) C 1 dX11_fault_12 rfl rfl ?_
    refine at_iconst (pc := 13) C dX11_fault_13 ?_
    refine at_icmp_ne (pc := 14) (tgt := 27) C h1 (isB.r (Or.inr rfl)) dX11_fault_14 rfl (fun c2 => ?_) (fun c2 => ?_)
    · have hF := (if_neg c2).symm.trans hF
      refine at_iconst (pc := 27) C dX11_fault_27 ?_
      obtain rfl := Option.some.inj hF
      exact at_iret (pc := 28) C hr hlk (show inR (-1) from ⟨by decide, by decide⟩) ok dX11_fault_28
    · have hF := (if_pos c2).symm.trans hF
      refine at_aload_n (pc := 17) C 0 dX11_fault_17 rfl rfl ?_
      refine at_getr (pc := 18) (k' := 1) C 1 fw_11_10 kd0 rfl (Nat.le_of_ble_eq_true rfl) rfl rfl dX11_fault_18 ?_
      refine at_geti (pc := 21) (jz := 10) C fw_11_133 kd1 rfl (Nat.le_of_ble_eq_true rfl) rfl rfl dX11_fault_21 ?_
      refine at_goto (pc := 24) (tgt := 28) C dX11_fault_24 rfl ?_
      obtain rfl := Option.some.inj hF
      exact at_iret (pc := 28) C hr hlk (ok 1 10) ok dX11_fault_28
  · have hF := (if_pos c1).symm.trans hF
    refine at_aload_n (pc := 4) C 0 dX11_fault_4 rfl rfl ?_
    refine at_getr (pc := 5) (k' := 1) C 1 fw_11_10 kd0 rfl (Nat.le_of_ble_eq_true rfl) rfl rfl dX11_fault_5 ?_
    refine at_geti (pc := 8) (jz := 9) C fw_11_130 kd1 rfl (Nat.le_of_ble_eq_true rfl) rfl rfl dX11_fault_8 ?_
    obtain rfl := Option.some.inj hF
    exact at_iret (pc := 11) C hr hlk (ok 1 9) ok dX11_fault_11
abbrev rm_X11_named : Room := { frames := 1, cells := 0, slots := 0, locals := 22 }
def F_X11_named (N : Nat) (v1 : Int) (σ : Sto) : Option (Int) :=
  asB (σ.1 0 1) (fun b1 => (F_X0_find N b1 v1 σ).bind (fun q2 => some q2))
set_option maxHeartbeats 4000000 in
set_option maxRecDepth 100000 in
theorem c_X11_named (l : Launch) (g : Geo) (N : Nat) (v1 : Int) (σ : Sto) (res : Int) (h1 : inR v1) (ok : OK σ) (hF : F_X11_named N v1 σ = some res) : MtI l g yX11_named cX11_named 2 (some .int) rm_X11_named [vr g 0, vi v1] σ res σ inR := by
  intro sz
  refine Met.ofAt (own := RX11) (QQ := fun z => QI g z res σ inR) (by decide +kernel) (Nat.le_of_ble_eq_true rfl) rfl ?_
  intro p e s m args below meth c C hr hlk
  show At p l e rm_X11_named s m args below meth c 0 0 g 2 (MQ below (QI g s.heap.size res σ inR) args s 0 0 (AA g s.heap.size)) 0 [(0, vr g 0), (1, vi v1)] [] σ
  unfold F_X11_named at hF
  refine at_aload_n (pc := 0) C 0 dX11_named_0 rfl rfl ?_
  obtain ⟨b1, eb1, kb1, hF⟩ := asB_some hF
  refine at_getd (pc := 1) (jz := 1) (k2 := b1) C fw_11_19 kd0 rfl (Nat.le_of_ble_eq_true rfl) rfl rfl eb1 dX11_named_1 ?_
  refine at_iload_n (pc := 4) C 1 dX11_named_4 rfl rfl ?_
  obtain ⟨q2, eq2, hF⟩ := bind_some' hF
  refine at_callV (pc := 5) (ci := 0) C (c_X0_find l g N b1 v1 σ q2 kb1 h1 ok eq2) kv_X0_find w691 kb1 rfl rfl rfl rfl (Nat.le_of_ble_eq_true rfl) ⟨rfl, rfl, (Nat.le_of_ble_eq_true rfl), (Nat.le_of_ble_eq_true rfl)⟩ dX11_named_5 (fun tq2 okq2 => ?_)
  obtain rfl := Option.some.inj hF
  exact at_iret (pc := 8) C hr hlk tq2 ok dX11_named_8
abbrev rm_X11_openOf : Room := { frames := 1, cells := 0, slots := 0, locals := 23 }
def F_X11_openOf (N : Nat) (v1 : Nat) (v2 : Int) (σ : Sto) : Option (Int) :=
  asB (σ.1 0 1) (fun b1 => inb v2 12 ((F_X5_takenOf N v1 v2 σ).bind (fun q3 => some (js (jabs (σ.1 (b1 + 7) v2)) q3))))
set_option maxHeartbeats 4000000 in
set_option maxRecDepth 100000 in
theorem c_X11_openOf (l : Launch) (g : Geo) (N : Nat) (v1 : Nat) (v2 : Int) (σ : Sto) (res : Int) (hk1 : knd v1 = (15, 4)) (h2 : inR v2) (ok : OK σ) (hF : F_X11_openOf N v1 v2 σ = some res) : MtI l g yX11_openOf cX11_openOf 3 (some .int) rm_X11_openOf [vr g 0, vr g v1, vi v2] σ res σ inR := by
  intro sz
  refine Met.ofAt (own := RX11) (QQ := fun z => QI g z res σ inR) (by decide +kernel) (Nat.le_of_ble_eq_true rfl) rfl ?_
  intro p e s m args below meth c C hr hlk
  show At p l e rm_X11_openOf s m args below meth c 0 0 g 3 (MQ below (QI g s.heap.size res σ inR) args s 0 0 (AA g s.heap.size)) 0 [(0, vr g 0), (1, vr g v1), (2, vi v2)] [] σ
  unfold F_X11_openOf at hF
  refine at_aload_n (pc := 0) C 0 dX11_openOf_0 rfl rfl ?_
  obtain ⟨b1, eb1, kb1, hF⟩ := asB_some hF
  refine at_getd (pc := 1) (jz := 1) (k2 := b1) C fw_11_19 kd0 rfl (Nat.le_of_ble_eq_true rfl) rfl rfl eb1 dX11_openOf_1 ?_
  refine at_getr (pc := 4) C 7 fw_11_178 kb1 rfl (Nat.le_of_ble_eq_true rfl) rfl rfl dX11_openOf_4 ?_
  refine at_iload_n (pc := 7) C 2 dX11_openOf_7 rfl rfl ?_
  obtain ⟨b2, hF⟩ := inb_some hF
  refine at_iaload (pc := 8) C (kf0_6 kb1) b2 dX11_openOf_8 ?_
  refine at_mabs (pc := 9) C km_abs w705 (ok (b1 + 7) v2) ⟨(Nat.le_of_ble_eq_true rfl), (Nat.le_of_ble_eq_true rfl)⟩ dX11_openOf_9 ?_
  refine at_aload_n (pc := 12) C 1 dX11_openOf_12 rfl rfl ?_
  refine at_iload_n (pc := 13) C 2 dX11_openOf_13 rfl rfl ?_
  obtain ⟨q3, eq3, hF⟩ := bind_some' hF
  refine at_callV (pc := 14) (ci := 5) C (c_X5_takenOf l g N v1 v2 σ q3 hk1 h2 ok eq3) kv_X5_takenOf w708 hk1 rfl rfl rfl rfl (Nat.le_of_ble_eq_true rfl) ⟨rfl, rfl, (Nat.le_of_ble_eq_true rfl), (Nat.le_of_ble_eq_true rfl)⟩ dX11_openOf_14 (fun tq3 okq3 => ?_)
  refine at_isub (pc := 17) C dX11_openOf_17 ?_
  obtain rfl := Option.some.inj hF
  exact at_iret (pc := 18) C hr hlk (js_R (jabs (σ.1 (b1 + 7) v2)) q3) ok dX11_openOf_18
abbrev rm_X11_period : Room := { frames := 2, cells := 0, slots := 0, locals := 45 }
def F_X11_period (N : Nat) (v1 : Int) (v2 : Int) (σ : Sto) : Option (Int) :=
  asB (σ.1 0 1) (fun b1 => (F_X0_hasPeriod N b1 v1 σ).bind (fun q2 => if q2 = 0 then (some (-999999)) else (if v2 = 0 then (asB (σ.1 0 1) (fun b5 => inb v1 12 (some (σ.1 (b5 + 4) v1)))) else (if v2 = 1 then (asB (σ.1 0 1) (fun b8 => inb v1 12 (some (σ.1 (b8 + 5) v1)))) else (if v2 = 2 then (asB (σ.1 0 1) (fun b11 => inb v1 12 (some (σ.1 (b11 + 6) v1)))) else (if v2 = 3 then (asB (σ.1 0 1) (fun b14 => inb v1 12 (some (σ.1 (b14 + 7) v1)))) else (if v2 = 4 then ((F_X11_openOf N 29 v1 σ).bind (fun q17 => some q17)) else (if v2 = 5 then ((F_X5_takenOf N 29 v1 σ).bind (fun q19 => some q19)) else (some (-999999))))))))))
set_option maxHeartbeats 4000000 in
set_option maxRecDepth 100000 in
theorem c_X11_period (l : Launch) (g : Geo) (N : Nat) (v1 : Int) (v2 : Int) (σ : Sto) (res : Int) (h1 : inR v1) (h2 : inR v2) (ok : OK σ) (hF : F_X11_period N v1 v2 σ = some res) : MtI l g yX11_period cX11_period 3 (some .int) rm_X11_period [vr g 0, vi v1, vi v2] σ res σ inR := by
  intro sz
  refine Met.ofAt (own := RX11) (QQ := fun z => QI g z res σ inR) (by decide +kernel) (Nat.le_of_ble_eq_true rfl) rfl ?_
  intro p e s m args below meth c C hr hlk
  show At p l e rm_X11_period s m args below meth c 0 0 g 3 (MQ below (QI g s.heap.size res σ inR) args s 0 0 (AA g s.heap.size)) 0 [(0, vr g 0), (1, vi v1), (2, vi v2)] [] σ
  unfold F_X11_period at hF
  refine at_aload_n (pc := 0) C 0 dX11_period_0 rfl rfl ?_
  obtain ⟨b1, eb1, kb1, hF⟩ := asB_some hF
  refine at_getd (pc := 1) (jz := 1) (k2 := b1) C fw_11_19 kd0 rfl (Nat.le_of_ble_eq_true rfl) rfl rfl eb1 dX11_period_1 ?_
  refine at_iload_n (pc := 4) C 1 dX11_period_4 rfl rfl ?_
  obtain ⟨q2, eq2, hF⟩ := bind_some' hF
  refine at_callV (pc := 5) (ci := 0) C (c_X0_hasPeriod l g N b1 v1 σ q2 kb1 h1 ok eq2) kv_X0_hasPeriod w696 kb1 rfl rfl rfl rfl (Nat.le_of_ble_eq_true rfl) ⟨rfl, rfl, (Nat.le_of_ble_eq_true rfl), (Nat.le_of_ble_eq_true rfl)⟩ dX11_period_5 (fun tq2 okq2 => ?_)
  refine at_if_ne (pc := 8) (tgt := 14) C (isB.r tq2) dX11_period_8 rfl (fun c3 => ?_) (fun c3 => ?_)
  · have hF := (if_neg c3).symm.trans hF
    refine at_iload_n (pc := 14) C 2 dX11_period_14 rfl rfl ?_
    by_cases c4 : v2 = 0
    · have hF := (if_pos c4).symm.trans hF
      refine at_tin (pc := 15) (off := 37) (tgt := 52) C dX11_period_15 h2 (by rw [c4]; decide) (by rw [c4]; decide) (by rw [c4]; rfl) rfl ?_
      refine at_aload_n (pc := 52) C 0 dX11_period_52 rfl rfl ?_
      obtain ⟨b5, eb5, kb5, hF⟩ := asB_some hF
      refine at_getd (pc := 53) (jz := 1) (k2 := b5) C fw_11_19 kd0 rfl (Nat.le_of_ble_eq_true rfl) rfl rfl eb5 dX11_period_53 ?_
      refine at_getr (pc := 56) C 4 fw_11_169 kb5 rfl (Nat.le_of_ble_eq_true rfl) rfl rfl dX11_period_56 ?_
      refine at_iload_n (pc := 59) C 1 dX11_period_59 rfl rfl ?_
      obtain ⟨b6, hF⟩ := inb_some hF
      refine at_iaload (pc := 60) C (kf0_3 kb5) b6 dX11_period_60 ?_
      obtain rfl := Option.some.inj hF
      exact at_iret (pc := 61) C hr hlk (ok (b5 + 4) v1) ok dX11_period_61
    · have hF := (if_neg c4).symm.trans hF
      by_cases c7 : v2 = 1
      · have hF := (if_pos c7).symm.trans hF
        refine at_tin (pc := 15) (off := 47) (tgt := 62) C dX11_period_15 h2 (by rw [c7]; decide) (by rw [c7]; decide) (by rw [c7]; rfl) rfl ?_
        refine at_aload_n (pc := 62) C 0 dX11_period_62 rfl rfl ?_
        obtain ⟨b8, eb8, kb8, hF⟩ := asB_some hF
        refine at_getd (pc := 63) (jz := 1) (k2 := b8) C fw_11_19 kd0 rfl (Nat.le_of_ble_eq_true rfl) rfl rfl eb8 dX11_period_63 ?_
        refine at_getr (pc := 66) C 5 fw_11_172 kb8 rfl (Nat.le_of_ble_eq_true rfl) rfl rfl dX11_period_66 ?_
        refine at_iload_n (pc := 69) C 1 dX11_period_69 rfl rfl ?_
        obtain ⟨b9, hF⟩ := inb_some hF
        refine at_iaload (pc := 70) C (kf0_4 kb8) b9 dX11_period_70 ?_
        obtain rfl := Option.some.inj hF
        exact at_iret (pc := 71) C hr hlk (ok (b8 + 5) v1) ok dX11_period_71
      · have hF := (if_neg c7).symm.trans hF
        by_cases c10 : v2 = 2
        · have hF := (if_pos c10).symm.trans hF
          refine at_tin (pc := 15) (off := 57) (tgt := 72) C dX11_period_15 h2 (by rw [c10]; decide) (by rw [c10]; decide) (by rw [c10]; rfl) rfl ?_
          refine at_aload_n (pc := 72) C 0 dX11_period_72 rfl rfl ?_
          obtain ⟨b11, eb11, kb11, hF⟩ := asB_some hF
          refine at_getd (pc := 73) (jz := 1) (k2 := b11) C fw_11_19 kd0 rfl (Nat.le_of_ble_eq_true rfl) rfl rfl eb11 dX11_period_73 ?_
          refine at_getr (pc := 76) C 6 fw_11_175 kb11 rfl (Nat.le_of_ble_eq_true rfl) rfl rfl dX11_period_76 ?_
          refine at_iload_n (pc := 79) C 1 dX11_period_79 rfl rfl ?_
          obtain ⟨b12, hF⟩ := inb_some hF
          refine at_iaload (pc := 80) C (kf0_5 kb11) b12 dX11_period_80 ?_
          obtain rfl := Option.some.inj hF
          exact at_iret (pc := 81) C hr hlk (ok (b11 + 6) v1) ok dX11_period_81
        · have hF := (if_neg c10).symm.trans hF
          by_cases c13 : v2 = 3
          · have hF := (if_pos c13).symm.trans hF
            refine at_tin (pc := 15) (off := 67) (tgt := 82) C dX11_period_15 h2 (by rw [c13]; decide) (by rw [c13]; decide) (by rw [c13]; rfl) rfl ?_
            refine at_aload_n (pc := 82) C 0 dX11_period_82 rfl rfl ?_
            obtain ⟨b14, eb14, kb14, hF⟩ := asB_some hF
            refine at_getd (pc := 83) (jz := 1) (k2 := b14) C fw_11_19 kd0 rfl (Nat.le_of_ble_eq_true rfl) rfl rfl eb14 dX11_period_83 ?_
            refine at_getr (pc := 86) C 7 fw_11_178 kb14 rfl (Nat.le_of_ble_eq_true rfl) rfl rfl dX11_period_86 ?_
            refine at_iload_n (pc := 89) C 1 dX11_period_89 rfl rfl ?_
            obtain ⟨b15, hF⟩ := inb_some hF
            refine at_iaload (pc := 90) C (kf0_6 kb14) b15 dX11_period_90 ?_
            obtain rfl := Option.some.inj hF
            exact at_iret (pc := 91) C hr hlk (ok (b14 + 7) v1) ok dX11_period_91
          · have hF := (if_neg c13).symm.trans hF
            by_cases c16 : v2 = 4
            · have hF := (if_pos c16).symm.trans hF
              refine at_tin (pc := 15) (off := 77) (tgt := 92) C dX11_period_15 h2 (by rw [c16]; decide) (by rw [c16]; decide) (by rw [c16]; rfl) rfl ?_
              refine at_aload_n (pc := 92) C 0 dX11_period_92 rfl rfl ?_
              refine at_aload_n (pc := 93) C 0 dX11_period_93 rfl rfl ?_
              refine at_getr (pc := 94) (k' := 29) C 29 fw_11_29 kd0 rfl (Nat.le_of_ble_eq_true rfl) rfl rfl dX11_period_94 ?_
              refine at_iload_n (pc := 97) C 1 dX11_period_97 rfl rfl ?_
              obtain ⟨q17, eq17, hF⟩ := bind_some' hF
              refine at_callV (pc := 98) (ci := 11) C (c_X11_openOf l g N 29 v1 σ q17 kd29 h1 ok eq17) kv_X11_openOf w701 kd0 rfl rfl rfl rfl (Nat.le_of_ble_eq_true rfl) ⟨rfl, rfl, (Nat.le_of_ble_eq_true rfl), (Nat.le_of_ble_eq_true rfl)⟩ dX11_period_98 (fun tq17 okq17 => ?_)
              obtain rfl := Option.some.inj hF
              exact at_iret (pc := 101) C hr hlk tq17 ok dX11_period_101
            · have hF := (if_neg c16).symm.trans hF
              by_cases c18 : v2 = 5
              · have hF := (if_pos c18).symm.trans hF
                refine at_tin (pc := 15) (off := 87) (tgt := 102) C dX11_period_15 h2 (by rw [c18]; decide) (by rw [c18]; decide) (by rw [c18]; rfl) rfl ?_
                refine at_aload_n (pc := 102) C 0 dX11_period_102 rfl rfl ?_
                refine at_getr (pc := 103) (k' := 29) C 29 fw_11_29 kd0 rfl (Nat.le_of_ble_eq_true rfl) rfl rfl dX11_period_103 ?_
                refine at_iload_n (pc := 106) C 1 dX11_period_106 rfl rfl ?_
                obtain ⟨q19, eq19, hF⟩ := bind_some' hF
                refine at_callV (pc := 107) (ci := 5) C (c_X5_takenOf l g N 29 v1 σ q19 kd29 h1 ok eq19) kv_X5_takenOf w708 kd29 rfl rfl rfl rfl (Nat.le_of_ble_eq_true rfl) ⟨rfl, rfl, (Nat.le_of_ble_eq_true rfl), (Nat.le_of_ble_eq_true rfl)⟩ dX11_period_107 (fun tq19 okq19 => ?_)
                obtain rfl := Option.some.inj hF
                exact at_iret (pc := 110) C hr hlk tq19 ok dX11_period_110
              · have hF := (if_neg c18).symm.trans hF
                refine at_tout (pc := 15) (tgt := 111) C h2 dX11_period_15 (by omega) rfl ?_
                refine at_ldc (pc := 111) (n := (-999999)) C dX11_period_111 w700 ?_
                obtain rfl := Option.some.inj hF
                exact at_iret (pc := 113) C hr hlk (show inR (-999999) from ⟨by decide, by decide⟩) ok dX11_period_113
  · have hF := (if_pos c3).symm.trans hF
    refine at_ldc (pc := 11) (n := (-999999)) C dX11_period_11 w700 ?_
    obtain rfl := Option.some.inj hF
    exact at_iret (pc := 13) C hr hlk (show inR (-999999) from ⟨by decide, by decide⟩) ok dX11_period_13
abbrev rm_X11_areMembers : Room := { frames := 1, cells := 0, slots := 0, locals := 21 }
def F_X11_areMembers_J26 (N : Nat)   (σ : Sto) : Option (Int) :=
  some 0
def F_X11_areMembers (N : Nat) (v1 : Int) (v2 : Int) (σ : Sto) : Option (Int) :=
  asB (σ.1 0 1) (fun b1 => (F_X0_hasMember N b1 v1 σ).bind (fun q2 => if q2 = 0 then (F_X11_areMembers_J26 N   σ) else (asB (σ.1 0 1) (fun b4 => (F_X0_hasMember N b4 v2 σ).bind (fun q5 => if q5 = 0 then (F_X11_areMembers_J26 N   σ) else (some 1))))))
set_option maxHeartbeats 4000000 in
set_option maxRecDepth 100000 in
theorem c_X11_areMembers (l : Launch) (g : Geo) (N : Nat) (v1 : Int) (v2 : Int) (σ : Sto) (res : Int) (h1 : inR v1) (h2 : inR v2) (ok : OK σ) (hF : F_X11_areMembers N v1 v2 σ = some res) : MtI l g yX11_areMembers cX11_areMembers 3 (some .boolean) rm_X11_areMembers [vr g 0, vi v1, vi v2] σ res σ isB := by
  intro sz
  refine Met.ofAt (own := RX11) (QQ := fun z => QI g z res σ isB) (by decide +kernel) (Nat.le_of_ble_eq_true rfl) rfl ?_
  intro p e s m args below meth c C hr hlk
  show At p l e rm_X11_areMembers s m args below meth c 0 0 g 3 (MQ below (QI g s.heap.size res σ isB) args s 0 0 (AA g s.heap.size)) 0 [(0, vr g 0), (1, vi v1), (2, vi v2)] [] σ
  unfold F_X11_areMembers at hF
  have J26 : F_X11_areMembers_J26 N   σ = some res → At p l e rm_X11_areMembers s m args below meth c 0 0 g 3 (MQ below (QI g s.heap.size res σ isB) args s 0 0 (AA g s.heap.size)) 26 [] [] σ := by
    intro   hF
    unfold F_X11_areMembers_J26 at hF
    refine at_iconst (pc := 26) C dX11_areMembers_26 ?_
    obtain rfl := Option.some.inj hF
    exact at_zret (pc := 27) C hr hlk (Or.inl rfl) ok dX11_areMembers_27
  refine at_aload_n (pc := 0) C 0 dX11_areMembers_0 rfl rfl ?_
  obtain ⟨b1, eb1, kb1, hF⟩ := asB_some hF
  refine at_getd (pc := 1) (jz := 1) (k2 := b1) C fw_11_19 kd0 rfl (Nat.le_of_ble_eq_true rfl) rfl rfl eb1 dX11_areMembers_1 ?_
  refine at_iload_n (pc := 4) C 1 dX11_areMembers_4 rfl rfl ?_
  obtain ⟨q2, eq2, hF⟩ := bind_some' hF
  refine at_callV (pc := 5) (ci := 0) C (c_X0_hasMember l g N b1 v1 σ q2 kb1 h1 ok eq2) kv_X0_hasMember w724 kb1 rfl rfl rfl rfl (Nat.le_of_ble_eq_true rfl) ⟨rfl, rfl, (Nat.le_of_ble_eq_true rfl), (Nat.le_of_ble_eq_true rfl)⟩ dX11_areMembers_5 (fun tq2 okq2 => ?_)
  refine at_if_eq (pc := 8) (tgt := 26) C (isB.r tq2) dX11_areMembers_8 rfl (fun c3 => ?_) (fun c3 => ?_)
  · have hF := (if_pos c3).symm.trans hF
    refine at_sub (lv' := []) [] rfl ?_
    exact J26  hF
  · have hF := (if_neg c3).symm.trans hF
    refine at_aload_n (pc := 11) C 0 dX11_areMembers_11 rfl rfl ?_
    obtain ⟨b4, eb4, kb4, hF⟩ := asB_some hF
    refine at_getd (pc := 12) (jz := 1) (k2 := b4) C fw_11_19 kd0 rfl (Nat.le_of_ble_eq_true rfl) rfl rfl eb4 dX11_areMembers_12 ?_
    refine at_iload_n (pc := 15) C 2 dX11_areMembers_15 rfl rfl ?_
    obtain ⟨q5, eq5, hF⟩ := bind_some' hF
    refine at_callV (pc := 16) (ci := 0) C (c_X0_hasMember l g N b4 v2 σ q5 kb4 h2 ok eq5) kv_X0_hasMember w724 kb4 rfl rfl rfl rfl (Nat.le_of_ble_eq_true rfl) ⟨rfl, rfl, (Nat.le_of_ble_eq_true rfl), (Nat.le_of_ble_eq_true rfl)⟩ dX11_areMembers_16 (fun tq5 okq5 => ?_)
    refine at_if_eq (pc := 19) (tgt := 26) C (isB.r tq5) dX11_areMembers_19 rfl (fun c6 => ?_) (fun c6 => ?_)
    · have hF := (if_pos c6).symm.trans hF
      refine at_sub (lv' := []) [] rfl ?_
      exact J26  hF
    · have hF := (if_neg c6).symm.trans hF
      refine at_iconst (pc := 22) C dX11_areMembers_22 ?_
      refine at_goto (pc := 23) (tgt := 27) C dX11_areMembers_23 rfl ?_
      obtain rfl := Option.some.inj hF
      exact at_zret (pc := 27) C hr hlk (Or.inr rfl) ok dX11_areMembers_27
abbrev rm_X11_isPair : Room := { frames := 2, cells := 0, slots := 0, locals := 43 }
def F_X11_isPair_J18 (N : Nat)   (σ : Sto) : Option (Int) :=
  some 0
def F_X11_isPair (N : Nat) (v1 : Int) (v2 : Int) (σ : Sto) : Option (Int) :=
  if v1 = v2 then (F_X11_isPair_J18 N   σ) else ((F_X11_areMembers N v1 v2 σ).bind (fun q2 => if q2 = 0 then (F_X11_isPair_J18 N   σ) else (some 1)))
set_option maxHeartbeats 4000000 in
set_option maxRecDepth 100000 in
theorem c_X11_isPair (l : Launch) (g : Geo) (N : Nat) (v1 : Int) (v2 : Int) (σ : Sto) (res : Int) (h1 : inR v1) (h2 : inR v2) (ok : OK σ) (hF : F_X11_isPair N v1 v2 σ = some res) : MtI l g yX11_isPair cX11_isPair 3 (some .boolean) rm_X11_isPair [vr g 0, vi v1, vi v2] σ res σ isB := by
  intro sz
  refine Met.ofAt (own := RX11) (QQ := fun z => QI g z res σ isB) (by decide +kernel) (Nat.le_of_ble_eq_true rfl) rfl ?_
  intro p e s m args below meth c C hr hlk
  show At p l e rm_X11_isPair s m args below meth c 0 0 g 3 (MQ below (QI g s.heap.size res σ isB) args s 0 0 (AA g s.heap.size)) 0 [(0, vr g 0), (1, vi v1), (2, vi v2)] [] σ
  unfold F_X11_isPair at hF
  have J18 : F_X11_isPair_J18 N   σ = some res → At p l e rm_X11_isPair s m args below meth c 0 0 g 3 (MQ below (QI g s.heap.size res σ isB) args s 0 0 (AA g s.heap.size)) 18 [] [] σ := by
    intro   hF
    unfold F_X11_isPair_J18 at hF
    refine at_iconst (pc := 18) C dX11_isPair_18 ?_
    obtain rfl := Option.some.inj hF
    exact at_zret (pc := 19) C hr hlk (Or.inl rfl) ok dX11_isPair_19
  refine at_iload_n (pc := 0) C 1 dX11_isPair_0 rfl rfl ?_
  refine at_iload_n (pc := 1) C 2 dX11_isPair_1 rfl rfl ?_
  refine at_icmp_eq (pc := 2) (tgt := 18) C h1 h2 dX11_isPair_2 rfl (fun c1 => ?_) (fun c1 => ?_)
  · have hF := (if_pos c1).symm.trans hF
    refine at_sub (lv' := []) [] rfl ?_
    exact J18  hF
  · have hF := (if_neg c1).symm.trans hF
    refine at_aload_n (pc := 5) C 0 dX11_isPair_5 rfl rfl ?_
    refine at_iload_n (pc := 6) C 1 dX11_isPair_6 rfl rfl ?_
    refine at_iload_n (pc := 7) C 2 dX11_isPair_7 rfl rfl ?_
    obtain ⟨q2, eq2, hF⟩ := bind_some' hF
    refine at_callV (pc := 8) (ci := 11) C (c_X11_areMembers l g N v1 v2 σ q2 h1 h2 ok eq2) kv_X11_areMembers w720 kd0 rfl rfl rfl rfl (Nat.le_of_ble_eq_true rfl) ⟨rfl, rfl, (Nat.le_of_ble_eq_true rfl), (Nat.le_of_ble_eq_true rfl)⟩ dX11_isPair_8 (fun tq2 okq2 => ?_)
    refine at_if_eq (pc := 11) (tgt := 18) C (isB.r tq2) dX11_isPair_11 rfl (fun c3 => ?_) (fun c3 => ?_)
    · have hF := (if_pos c3).symm.trans hF
      refine at_sub (lv' := []) [] rfl ?_
      exact J18  hF
    · have hF := (if_neg c3).symm.trans hF
      refine at_iconst (pc := 14) C dX11_isPair_14 ?_
      refine at_goto (pc := 15) (tgt := 19) C dX11_isPair_15 rfl ?_
      obtain rfl := Option.some.inj hF
      exact at_zret (pc := 19) C hr hlk (Or.inr rfl) ok dX11_isPair_19
abbrev rm_X11_isDay : Room := { frames := 0, cells := 0, slots := 0, locals := 0 }
def F_X11_isDay_J15 (N : Nat)   (σ : Sto) : Option (Int) :=
  some 0
def F_X11_isDay (N : Nat) (v0 : Int) (σ : Sto) : Option (Int) :=
  if v0 < 0 then (F_X11_isDay_J15 N   σ) else (if 999 < v0 then (F_X11_isDay_J15 N   σ) else (some 1))
set_option maxHeartbeats 4000000 in
set_option maxRecDepth 100000 in
theorem c_X11_isDay (l : Launch) (g : Geo) (N : Nat) (v0 : Int) (σ : Sto) (res : Int) (h0 : inR v0) (ok : OK σ) (hF : F_X11_isDay N v0 σ = some res) : MtI l g yX11_isDay cX11_isDay 1 (some .boolean) rm_X11_isDay [vi v0] σ res σ isB := by
  intro sz
  refine Met.ofAt (own := RX11) (QQ := fun z => QI g z res σ isB) (by decide +kernel) (Nat.le_of_ble_eq_true rfl) rfl ?_
  intro p e s m args below meth c C hr hlk
  show At p l e rm_X11_isDay s m args below meth c 0 0 g 1 (MQ below (QI g s.heap.size res σ isB) args s 0 0 (AA g s.heap.size)) 0 [(0, vi v0)] [] σ
  unfold F_X11_isDay at hF
  have J15 : F_X11_isDay_J15 N   σ = some res → At p l e rm_X11_isDay s m args below meth c 0 0 g 1 (MQ below (QI g s.heap.size res σ isB) args s 0 0 (AA g s.heap.size)) 15 [] [] σ := by
    intro   hF
    unfold F_X11_isDay_J15 at hF
    refine at_iconst (pc := 15) C dX11_isDay_15 ?_
    obtain rfl := Option.some.inj hF
    exact at_zret (pc := 16) C hr hlk (Or.inl rfl) ok dX11_isDay_16
  refine at_iload_n (pc := 0) C 0 dX11_isDay_0 rfl rfl ?_
  refine at_if_lt (pc := 1) (tgt := 15) C h0 dX11_isDay_1 rfl (fun c1 => ?_) (fun c1 => ?_)
  · have hF := (if_pos c1).symm.trans hF
    refine at_sub (lv' := []) [] rfl ?_
    exact J15  hF
  · have hF := (if_neg c1).symm.trans hF
    refine at_iload_n (pc := 4) C 0 dX11_isDay_4 rfl rfl ?_
    refine at_sipush (pc := 5) C dX11_isDay_5 (by decide) ?_
    refine at_icmp_gt (pc := 8) (tgt := 15) C h0 (show inR 999 from ⟨by decide, by decide⟩) dX11_isDay_8 rfl (fun c2 => ?_) (fun c2 => ?_)
    · have hF := (if_pos c2).symm.trans hF
      refine at_sub (lv' := []) [] rfl ?_
      exact J15  hF
    · have hF := (if_neg c2).symm.trans hF
      refine at_iconst (pc := 11) C dX11_isDay_11 ?_
      refine at_goto (pc := 12) (tgt := 16) C dX11_isDay_12 rfl ?_
      obtain rfl := Option.some.inj hF
      exact at_zret (pc := 16) C hr hlk (Or.inr rfl) ok dX11_isDay_16
abbrev rm_X11_percent : Room := { frames := 3, cells := 0, slots := 0, locals := 65 }
def F_X11_percent (N : Nat) (v1 : Int) (v2 : Int) (v3 : Int) (σ : Sto) : Option (Int × Sto) :=
  (F_X11_isPair N v1 v2 σ).bind (fun q1 => if q1 = 0 then (some ((-1), σ)) else ((F_X11_isDay N v3 σ).bind (fun q3 => if q3 = 0 then (some ((-1), σ)) else (asB (σ.1 0 1) (fun b5 => (F_X10_load N b5 v3 σ).bind (fun q6 => inb (ja (jm v1 8) v2) 64 (some ((q6.1 47 (ja (jm v1 8) v2)), q6))))))))
set_option maxHeartbeats 4000000 in
set_option maxRecDepth 100000 in
theorem c_X11_percent (l : Launch) (g : Geo) (N : Nat) (v1 : Int) (v2 : Int) (v3 : Int) (σ : Sto) (res : Int × Sto) (h1 : inR v1) (h2 : inR v2) (h3 : inR v3) (ok : OK σ) (hF : F_X11_percent N v1 v2 v3 σ = some res) : MtI l g yX11_percent cX11_percent 4 (some .int) rm_X11_percent [vr g 0, vi v1, vi v2, vi v3] σ res.1 res.2 inR := by
  intro sz
  refine Met.ofAt (own := RX11) (QQ := fun z => QI g z res.1 res.2 inR) (by decide +kernel) (Nat.le_of_ble_eq_true rfl) rfl ?_
  intro p e s m args below meth c C hr hlk
  show At p l e rm_X11_percent s m args below meth c 0 0 g 4 (MQ below (QI g s.heap.size res.1 res.2 inR) args s 0 0 (AA g s.heap.size)) 0 [(0, vr g 0), (1, vi v1), (2, vi v2), (3, vi v3)] [] σ
  unfold F_X11_percent at hF
  refine at_aload_n (pc := 0) C 0 dX11_percent_0 rfl rfl ?_
  refine at_iload_n (pc := 1) C 1 dX11_percent_1 rfl rfl ?_
  refine at_iload_n (pc := 2) C 2 dX11_percent_2 rfl rfl ?_
  obtain ⟨q1, eq1, hF⟩ := bind_some' hF
  refine at_callV (pc := 3) (ci := 11) C (c_X11_isPair l g N v1 v2 σ q1 h1 h2 ok eq1) kv_X11_isPair w716 kd0 rfl rfl rfl rfl (Nat.le_of_ble_eq_true rfl) ⟨rfl, rfl, (Nat.le_of_ble_eq_true rfl), (Nat.le_of_ble_eq_true rfl)⟩ dX11_percent_3 (fun tq1 okq1 => ?_)
  refine at_if_eq (pc := 6) (tgt := 16) C (isB.r tq1) dX11_percent_6 rfl (fun c2 => ?_) (fun c2 => ?_)
  · have hF := (if_pos c2).symm.trans hF
    refine at_iconst (pc := 16) C dX11_percent_16 ?_
    obtain rfl := Option.some.inj hF
    exact at_iret (pc := 17) C hr hlk (show inR (-1) from ⟨by decide, by decide⟩) ok dX11_percent_17
  · have hF := (if_neg c2).symm.trans hF
    refine at_iload_n (pc := 9) C 3 dX11_percent_9 rfl rfl ?_
    obtain ⟨q3, eq3, hF⟩ := bind_some' hF
    refine at_callS (pc := 10) C (c_X11_isDay l g N v3 σ q3 h3 ok eq3) ks_X11_isDay w728 rfl rfl (Nat.le_of_ble_eq_true rfl) ⟨rfl, rfl, (Nat.le_of_ble_eq_true rfl), (Nat.le_of_ble_eq_true rfl)⟩ dX11_percent_10 (fun tq3 okq3 => ?_)
    refine at_if_ne (pc := 13) (tgt := 18) C (isB.r tq3) dX11_percent_13 rfl (fun c4 => ?_) (fun c4 => ?_)
    · have hF := (if_neg c4).symm.trans hF
      refine at_aload_n (pc := 18) C 0 dX11_percent_18 rfl rfl ?_
      refine at_getr (pc := 19) (k' := 46) C 46 fw_11_50 kd0 rfl (Nat.le_of_ble_eq_true rfl) rfl rfl dX11_percent_19 ?_
      refine at_aload_n (pc := 22) C 0 dX11_percent_22 rfl rfl ?_
      obtain ⟨b5, eb5, kb5, hF⟩ := asB_some hF
      refine at_getd (pc := 23) (jz := 1) (k2 := b5) C fw_11_19 kd0 rfl (Nat.le_of_ble_eq_true rfl) rfl rfl eb5 dX11_percent_23 ?_
      refine at_iload_n (pc := 26) C 3 dX11_percent_26 rfl rfl ?_
      obtain ⟨q6, eq6, hF⟩ := bind_some' hF
      refine at_callVv (pc := 27) (ci := 10) C (c_X10_load l g N b5 v3 σ q6 kb5 h3 ok eq6) kv_X10_load w731 kd46 rfl rfl rfl rfl (Nat.le_of_ble_eq_true rfl) ⟨rfl, rfl, (Nat.le_of_ble_eq_true rfl), (Nat.le_of_ble_eq_true rfl)⟩ dX11_percent_27 (fun okq6 => ?_)
      refine at_aload_n (pc := 30) C 0 dX11_percent_30 rfl rfl ?_
      refine at_getr (pc := 31) (k' := 46) C 46 fw_11_50 kd0 rfl (Nat.le_of_ble_eq_true rfl) rfl rfl dX11_percent_31 ?_
      refine at_getr (pc := 34) (k' := 47) C 1 fw_11_199 kd46 rfl (Nat.le_of_ble_eq_true rfl) rfl rfl dX11_percent_34 ?_
      refine at_iload_n (pc := 37) C 1 dX11_percent_37 rfl rfl ?_
      refine at_bipush (pc := 38) C dX11_percent_38 (by decide) ?_
      refine at_imul (pc := 40) C dX11_percent_40 ?_
      refine at_iload_n (pc := 41) C 2 dX11_percent_41 rfl rfl ?_
      refine at_iadd (pc := 42) C dX11_percent_42 ?_
      obtain ⟨b7, hF⟩ := inb_some hF
      refine at_iaload (pc := 43) C kd47 b7 dX11_percent_43 ?_
      obtain rfl := Option.some.inj hF
      exact at_iret (pc := 44) C hr hlk (okq6 47 (ja (jm v1 8) v2)) okq6 dX11_percent_44
    · have hF := (if_pos c4).symm.trans hF
      refine at_iconst (pc := 16) C dX11_percent_16 ?_
      obtain rfl := Option.some.inj hF
      exact at_iret (pc := 17) C hr hlk (show inR (-1) from ⟨by decide, by decide⟩) ok dX11_percent_17
abbrev rm_X11_bitsOf : Room := { frames := 0, cells := 0, slots := 0, locals := 0 }
def F_X11_bitsOf_J67 (N : Nat)  (v1 : UInt32) (v2 : Int) (σ : Sto) : Option (Int) :=
  grd (vf_n32 (FP.fsub v1 FP.fconst1)) (dn32 _) (grd (vf_n32 (FP.fmul (FP.fsub v1 FP.fconst1) 1258291200)) (dn32 _) (some (jor (jshl v2 23) (jf2i (FP.fmul (FP.fsub v1 FP.fconst1) 1258291200)))))
def F_X11_bitsOf_B42 (N : Nat) (nx42 : (UInt32 × Int × Int) → Option (Int))  (v1 : UInt32) (v2 : Int) (v3 : Int) (σ : Sto) : Option (Int) :=
  if 126 ≤ v3 then (F_X11_bitsOf_J67 N  v1 v2 σ) else (if 0 ≤ (jfcmp v1 FP.fconst1 .g) then (F_X11_bitsOf_J67 N  v1 v2 σ) else (grd (vf_n32 (FP.fmul v1 FP.fconst2)) (dn32 _) (nx42 ((FP.fmul v1 FP.fconst2), (js v2 1), (ja v3 1)))))
def F_X11_bitsOf_J40 (N : Nat)  (v1 : UInt32) (v2 : Int) (σ : Sto) : Option (Int) :=
  loopK (fun q nx42 => F_X11_bitsOf_B42 N  nx42  q.1 q.2.1 q.2.2 σ) N (v1, v2, 0)
def F_X11_bitsOf_B15 (N : Nat) (nx15 : (UInt32 × Int × Int) → Option (Int))  (v1 : UInt32) (v2 : Int) (v3 : Int) (σ : Sto) : Option (Int) :=
  if 127 ≤ v3 then (F_X11_bitsOf_J40 N  v1 v2 σ) else (if (jfcmp v1 FP.fconst2 .l) < 0 then (F_X11_bitsOf_J40 N  v1 v2 σ) else (grd (vf_n32 (FP.fdiv v1 FP.fconst2)) (dn32 _) (nx15 ((FP.fdiv v1 FP.fconst2), (ja v2 1), (ja v3 1)))))
def F_X11_bitsOf (N : Nat) (v0 : UInt32) (σ : Sto) : Option (Int) :=
  if 0 < (jfcmp v0 FP.fconst0 .l) then (loopK (fun q nx15 => F_X11_bitsOf_B15 N  nx15  q.1 q.2.1 q.2.2 σ) N (v0, 127, 0)) else (some 0)
set_option maxHeartbeats 4000000 in
set_option maxRecDepth 100000 in
theorem c_X11_bitsOf (l : Launch) (g : Geo) (N : Nat) (v0 : UInt32) (σ : Sto) (res : Int)  (ok : OK σ) (hF : F_X11_bitsOf N v0 σ = some res) : MtI l g yX11_bitsOf cX11_bitsOf 4 (some .int) rm_X11_bitsOf [.float v0] σ res σ inR := by
  intro sz
  refine Met.ofAt (own := RX11) (QQ := fun z => QI g z res σ inR) (by decide +kernel) (Nat.le_of_ble_eq_true rfl) rfl ?_
  intro p e s m args below meth c C hr hlk
  show At p l e rm_X11_bitsOf s m args below meth c 0 0 g 4 (MQ below (QI g s.heap.size res σ inR) args s 0 0 (AA g s.heap.size)) 0 [(0, .float v0)] [] σ
  unfold F_X11_bitsOf at hF
  refine at_fload_n (pc := 0) C 0 dX11_bitsOf_0 rfl rfl ?_
  refine at_fconst0 (pc := 1) C dX11_bitsOf_1 ?_
  refine at_fcmp (pc := 2) C dX11_bitsOf_2 ?_
  refine at_if_gt (pc := 3) (tgt := 8) C (jfcmp_R v0 FP.fconst0 .l) dX11_bitsOf_3 rfl (fun c1 => ?_) (fun c1 => ?_)
  · have hF := (if_pos c1).symm.trans hF
    refine at_fload_n (pc := 8) C 0 dX11_bitsOf_8 rfl rfl ?_
    refine at_fstore_n (pc := 9) (lv' := [(1, .float v0), (0, .float v0)]) C dX11_bitsOf_9 rfl (Nat.le_of_ble_eq_true rfl) rfl ?_
    refine at_bipush (pc := 10) C dX11_bitsOf_10 (by decide) ?_
    refine at_istore_n (pc := 12) (lv' := [(2, vi 127), (1, .float v0), (0, .float v0)]) C dX11_bitsOf_12 rfl (Nat.le_of_ble_eq_true rfl) rfl ?_
    refine at_iconst (pc := 13) C dX11_bitsOf_13 ?_
    refine at_istore_n (pc := 14) (lv' := [(3, vi 0), (2, vi 127), (1, .float v0), (0, .float v0)]) C dX11_bitsOf_14 rfl (Nat.le_of_ble_eq_true rfl) rfl ?_
    have L15 : ∀ (v1 : UInt32) (v2 : Int) (v3 : Int), inR v2 → inR v3 → loopK (fun q nx15 => F_X11_bitsOf_B15 N  nx15  q.1 q.2.1 q.2.2 σ) N (v1, v2, v3) = some res → At p l e rm_X11_bitsOf s m args below meth c 0 0 g 4 (MQ below (QI g s.heap.size res σ inR) args s 0 0 (AA g s.heap.size)) 15 [(1, .float v1), (2, vi v2), (3, vi v3)] [] σ := by
      intro v1 v2 v3 h2 h3 hF
      refine loopK_ind (res := res) (P := fun (q : UInt32 × Int × Int) => inR q.2.1 → inR q.2.2 → At p l e rm_X11_bitsOf s m args below meth c 0 0 g 4 (MQ below (QI g s.heap.size res σ inR) args s 0 0 (AA g s.heap.size)) 15 [(1, .float q.1), (2, vi q.2.1), (3, vi q.2.2)] [] σ) ?_ N _ hF h2 h3
      intro nx15 q ih15 hF
      obtain ⟨v1, v2, v3⟩ := q
      intro h2 h3
      have hF : F_X11_bitsOf_B15 N  nx15  v1 v2 v3 σ = some res := hF
      unfold F_X11_bitsOf_B15 at hF
      have J40 : ∀ (v1 : UInt32) (v2 : Int), inR v2 → F_X11_bitsOf_J40 N  v1 v2 σ = some res → At p l e rm_X11_bitsOf s m args below meth c 0 0 g 4 (MQ below (QI g s.heap.size res σ inR) args s 0 0 (AA g s.heap.size)) 40 [(1, .float v1), (2, vi v2)] [] σ := by
        intro v1 v2 h2 hF
        unfold F_X11_bitsOf_J40 at hF
        refine at_iconst (pc := 40) C dX11_bitsOf_40 ?_
        refine at_istore_n (pc := 41) (lv' := [(3, vi 0), (1, .float v1), (2, vi v2)]) C dX11_bitsOf_41 rfl (Nat.le_of_ble_eq_true rfl) rfl ?_
        have L42 : ∀ (v1 : UInt32) (v2 : Int) (v3 : Int), inR v2 → inR v3 → loopK (fun q nx42 => F_X11_bitsOf_B42 N  nx42  q.1 q.2.1 q.2.2 σ) N (v1, v2, v3) = some res → At p l e rm_X11_bitsOf s m args below meth c 0 0 g 4 (MQ below (QI g s.heap.size res σ inR) args s 0 0 (AA g s.heap.size)) 42 [(1, .float v1), (2, vi v2), (3, vi v3)] [] σ := by
          intro v1 v2 v3 h2 h3 hF
          refine loopK_ind (res := res) (P := fun (q : UInt32 × Int × Int) => inR q.2.1 → inR q.2.2 → At p l e rm_X11_bitsOf s m args below meth c 0 0 g 4 (MQ below (QI g s.heap.size res σ inR) args s 0 0 (AA g s.heap.size)) 42 [(1, .float q.1), (2, vi q.2.1), (3, vi q.2.2)] [] σ) ?_ N _ hF h2 h3
          intro nx42 q ih42 hF
          obtain ⟨v1, v2, v3⟩ := q
          intro h2 h3
          have hF : F_X11_bitsOf_B42 N  nx42  v1 v2 v3 σ = some res := hF
          unfold F_X11_bitsOf_B42 at hF
          have J67 : ∀ (v1 : UInt32) (v2 : Int), inR v2 → F_X11_bitsOf_J67 N  v1 v2 σ = some res → At p l e rm_X11_bitsOf s m args below meth c 0 0 g 4 (MQ below (QI g s.heap.size res σ inR) args s 0 0 (AA g s.heap.size)) 67 [(1, .float v1), (2, vi v2)] [] σ := by
            intro v1 v2 h2 hF
            unfold F_X11_bitsOf_J67 at hF
            refine at_iload_n (pc := 67) C 1 dX11_bitsOf_67 rfl rfl ?_
            refine at_bipush (pc := 68) C dX11_bitsOf_68 (by decide) ?_
            refine at_ishl (pc := 70) C dX11_bitsOf_70 ?_
            refine at_fload_n (pc := 71) C 0 dX11_bitsOf_71 rfl rfl ?_
            refine at_fconst1 (pc := 72) C dX11_bitsOf_72 ?_
            obtain ⟨n2, hF⟩ := grd_some hF
            refine at_fsub (pc := 73) C dX11_bitsOf_73 n2 ?_
            refine at_ldcwf (pc := 74) C dX11_bitsOf_74 w751 ?_
            obtain ⟨n3, hF⟩ := grd_some hF
            refine at_fmul (pc := 77) C dX11_bitsOf_77 n3 ?_
            refine at_f2i (pc := 78) C dX11_bitsOf_78 ?_
            refine at_ior (pc := 79) C dX11_bitsOf_79 ?_
            obtain rfl := Option.some.inj hF
            exact at_iret (pc := 80) C hr hlk (jor_R (jshl v2 23) (jf2i (FP.fmul (FP.fsub v1 FP.fconst1) 1258291200))) ok dX11_bitsOf_80
          refine at_iload_n (pc := 42) C 2 dX11_bitsOf_42 rfl rfl ?_
          refine at_bipush (pc := 43) C dX11_bitsOf_43 (by decide) ?_
          refine at_icmp_ge (pc := 45) (tgt := 67) C h3 (show inR 126 from ⟨by decide, by decide⟩) dX11_bitsOf_45 rfl (fun c4 => ?_) (fun c4 => ?_)
          · have hF := (if_pos c4).symm.trans hF
            refine at_sub (lv' := [(1, .float v1), (2, vi v2)]) [0, 1] rfl ?_
            exact J67 v1 v2 h2 hF
          · have hF := (if_neg c4).symm.trans hF
            refine at_fload_n (pc := 48) C 0 dX11_bitsOf_48 rfl rfl ?_
            refine at_fconst1 (pc := 49) C dX11_bitsOf_49 ?_
            refine at_fcmp (pc := 50) C dX11_bitsOf_50 ?_
            refine at_if_ge (pc := 51) (tgt := 67) C (jfcmp_R v1 FP.fconst1 .g) dX11_bitsOf_51 rfl (fun c5 => ?_) (fun c5 => ?_)
            · have hF := (if_pos c5).symm.trans hF
              refine at_sub (lv' := [(1, .float v1), (2, vi v2)]) [0, 1] rfl ?_
              exact J67 v1 v2 h2 hF
            · have hF := (if_neg c5).symm.trans hF
              refine at_fload_n (pc := 54) C 0 dX11_bitsOf_54 rfl rfl ?_
              refine at_fconst2 (pc := 55) C dX11_bitsOf_55 ?_
              obtain ⟨n6, hF⟩ := grd_some hF
              refine at_fmul (pc := 56) C dX11_bitsOf_56 n6 ?_
              refine at_fstore_n (pc := 57) (lv' := [(1, .float (FP.fmul v1 FP.fconst2)), (2, vi v2), (3, vi v3)]) C dX11_bitsOf_57 rfl (Nat.le_of_ble_eq_true rfl) rfl ?_
              refine at_idec (pc := 58) (k := 1) (lv' := [(2, vi (js v2 1)), (1, .float (FP.fmul v1 FP.fconst2)), (3, vi v3)]) C (by decide) 1 dX11_bitsOf_58 rfl (Nat.le_of_ble_eq_true rfl) rfl ?_
              refine at_iinc (pc := 61) (lv' := [(3, vi (ja v3 1)), (2, vi (js v2 1)), (1, .float (FP.fmul v1 FP.fconst2))]) C 2 dX11_bitsOf_61 rfl (Nat.le_of_ble_eq_true rfl) rfl ?_
              refine at_goto (pc := 64) (tgt := 42) C dX11_bitsOf_64 rfl ?_
              refine at_sub (lv' := [(1, .float (FP.fmul v1 FP.fconst2)), (2, vi (js v2 1)), (3, vi (ja v3 1))]) [2, 1, 0] rfl ?_
              exact ih42 _ hF (js_R v2 1) (ja_R v3 1)
        refine at_sub (lv' := [(1, .float v1), (2, vi v2), (3, vi 0)]) [1, 2, 0] rfl ?_
        exact L42 v1 v2 0 h2 (isB.r (Or.inl rfl)) hF
      refine at_iload_n (pc := 15) C 2 dX11_bitsOf_15 rfl rfl ?_
      refine at_bipush (pc := 16) C dX11_bitsOf_16 (by decide) ?_
      refine at_icmp_ge (pc := 18) (tgt := 40) C h3 (show inR 127 from ⟨by decide, by decide⟩) dX11_bitsOf_18 rfl (fun c7 => ?_) (fun c7 => ?_)
      · have hF := (if_pos c7).symm.trans hF
        refine at_sub (lv' := [(1, .float v1), (2, vi v2)]) [0, 1] rfl ?_
        exact J40 v1 v2 h2 hF
      · have hF := (if_neg c7).symm.trans hF
        refine at_fload_n (pc := 21) C 0 dX11_bitsOf_21 rfl rfl ?_
        refine at_fconst2 (pc := 22) C dX11_bitsOf_22 ?_
        refine at_fcmp (pc := 23) C dX11_bitsOf_23 ?_
        refine at_if_lt (pc := 24) (tgt := 40) C (jfcmp_R v1 FP.fconst2 .l) dX11_bitsOf_24 rfl (fun c8 => ?_) (fun c8 => ?_)
        · have hF := (if_pos c8).symm.trans hF
          refine at_sub (lv' := [(1, .float v1), (2, vi v2)]) [0, 1] rfl ?_
          exact J40 v1 v2 h2 hF
        · have hF := (if_neg c8).symm.trans hF
          refine at_fload_n (pc := 27) C 0 dX11_bitsOf_27 rfl rfl ?_
          refine at_fconst2 (pc := 28) C dX11_bitsOf_28 ?_
          obtain ⟨n9, hF⟩ := grd_some hF
          refine at_fdiv (pc := 29) C dX11_bitsOf_29 n9 ?_
          refine at_fstore_n (pc := 30) (lv' := [(1, .float (FP.fdiv v1 FP.fconst2)), (2, vi v2), (3, vi v3)]) C dX11_bitsOf_30 rfl (Nat.le_of_ble_eq_true rfl) rfl ?_
          refine at_iinc (pc := 31) (lv' := [(2, vi (ja v2 1)), (1, .float (FP.fdiv v1 FP.fconst2)), (3, vi v3)]) C 1 dX11_bitsOf_31 rfl (Nat.le_of_ble_eq_true rfl) rfl ?_
          refine at_iinc (pc := 34) (lv' := [(3, vi (ja v3 1)), (2, vi (ja v2 1)), (1, .float (FP.fdiv v1 FP.fconst2))]) C 2 dX11_bitsOf_34 rfl (Nat.le_of_ble_eq_true rfl) rfl ?_
          refine at_goto (pc := 37) (tgt := 15) C dX11_bitsOf_37 rfl ?_
          refine at_sub (lv' := [(1, .float (FP.fdiv v1 FP.fconst2)), (2, vi (ja v2 1)), (3, vi (ja v3 1))]) [2, 1, 0] rfl ?_
          exact ih15 _ hF (ja_R v2 1) (ja_R v3 1)
    refine at_sub (lv' := [(1, .float v0), (2, vi 127), (3, vi 0)]) [2, 1, 0] rfl ?_
    exact L15 v0 127 0 (show inR 127 from ⟨by decide, by decide⟩) (isB.r (Or.inl rfl)) hF
  · have hF := (if_neg c1).symm.trans hF
    refine at_iconst (pc := 6) C dX11_bitsOf_6 ?_
    obtain rfl := Option.some.inj hF
    exact at_iret (pc := 7) C hr hlk (isB.r (Or.inl rfl)) ok dX11_bitsOf_7
abbrev rm_X11_share : Room := { frames := 2, cells := 0, slots := 0, locals := 48 }
def F_X11_share (N : Nat) (v1 : Int) (v2 : Int) (v3 : Int) (σ : Sto) : Option (Int × Sto) :=
  (F_X11_areMembers N v1 v2 σ).bind (fun q1 => if q1 = 0 then (some ((-1), σ)) else ((F_X11_isDay N v3 σ).bind (fun q3 => if q3 = 0 then (some ((-1), σ)) else (asB (σ.1 0 1) (fun b5 => (F_X10_load N b5 v3 σ).bind (fun q6 => inb (ja (jm v1 8) v2) 64 ((F_X11_bitsOf N (fb (q6.2 49 (ja (jm v1 8) v2))) q6).bind (fun q8 => some (q8, q6)))))))))
set_option maxHeartbeats 4000000 in
set_option maxRecDepth 100000 in
theorem c_X11_share (l : Launch) (g : Geo) (N : Nat) (v1 : Int) (v2 : Int) (v3 : Int) (σ : Sto) (res : Int × Sto) (h1 : inR v1) (h2 : inR v2) (h3 : inR v3) (ok : OK σ) (hF : F_X11_share N v1 v2 v3 σ = some res) : MtI l g yX11_share cX11_share 4 (some .int) rm_X11_share [vr g 0, vi v1, vi v2, vi v3] σ res.1 res.2 inR := by
  intro sz
  refine Met.ofAt (own := RX11) (QQ := fun z => QI g z res.1 res.2 inR) (by decide +kernel) (Nat.le_of_ble_eq_true rfl) rfl ?_
  intro p e s m args below meth c C hr hlk
  show At p l e rm_X11_share s m args below meth c 0 0 g 4 (MQ below (QI g s.heap.size res.1 res.2 inR) args s 0 0 (AA g s.heap.size)) 0 [(0, vr g 0), (1, vi v1), (2, vi v2), (3, vi v3)] [] σ
  unfold F_X11_share at hF
  refine at_aload_n (pc := 0) C 0 dX11_share_0 rfl rfl ?_
  refine at_iload_n (pc := 1) C 1 dX11_share_1 rfl rfl ?_
  refine at_iload_n (pc := 2) C 2 dX11_share_2 rfl rfl ?_
  obtain ⟨q1, eq1, hF⟩ := bind_some' hF
  refine at_callV (pc := 3) (ci := 11) C (c_X11_areMembers l g N v1 v2 σ q1 h1 h2 ok eq1) kv_X11_areMembers w720 kd0 rfl rfl rfl rfl (Nat.le_of_ble_eq_true rfl) ⟨rfl, rfl, (Nat.le_of_ble_eq_true rfl), (Nat.le_of_ble_eq_true rfl)⟩ dX11_share_3 (fun tq1 okq1 => ?_)
  refine at_if_eq (pc := 6) (tgt := 16) C (isB.r tq1) dX11_share_6 rfl (fun c2 => ?_) (fun c2 => ?_)
  · have hF := (if_pos c2).symm.trans hF
    refine at_iconst (pc := 16) C dX11_share_16 ?_
    obtain rfl := Option.some.inj hF
    exact at_iret (pc := 17) C hr hlk (show inR (-1) from ⟨by decide, by decide⟩) ok dX11_share_17
  · have hF := (if_neg c2).symm.trans hF
    refine at_iload_n (pc := 9) C 3 dX11_share_9 rfl rfl ?_
    obtain ⟨q3, eq3, hF⟩ := bind_some' hF
    refine at_callS (pc := 10) C (c_X11_isDay l g N v3 σ q3 h3 ok eq3) ks_X11_isDay w728 rfl rfl (Nat.le_of_ble_eq_true rfl) ⟨rfl, rfl, (Nat.le_of_ble_eq_true rfl), (Nat.le_of_ble_eq_true rfl)⟩ dX11_share_10 (fun tq3 okq3 => ?_)
    refine at_if_ne (pc := 13) (tgt := 18) C (isB.r tq3) dX11_share_13 rfl (fun c4 => ?_) (fun c4 => ?_)
    · have hF := (if_neg c4).symm.trans hF
      refine at_aload_n (pc := 18) C 0 dX11_share_18 rfl rfl ?_
      refine at_getr (pc := 19) (k' := 46) C 46 fw_11_50 kd0 rfl (Nat.le_of_ble_eq_true rfl) rfl rfl dX11_share_19 ?_
      refine at_aload_n (pc := 22) C 0 dX11_share_22 rfl rfl ?_
      obtain ⟨b5, eb5, kb5, hF⟩ := asB_some hF
      refine at_getd (pc := 23) (jz := 1) (k2 := b5) C fw_11_19 kd0 rfl (Nat.le_of_ble_eq_true rfl) rfl rfl eb5 dX11_share_23 ?_
      refine at_iload_n (pc := 26) C 3 dX11_share_26 rfl rfl ?_
      obtain ⟨q6, eq6, hF⟩ := bind_some' hF
      refine at_callVv (pc := 27) (ci := 10) C (c_X10_load l g N b5 v3 σ q6 kb5 h3 ok eq6) kv_X10_load w731 kd46 rfl rfl rfl rfl (Nat.le_of_ble_eq_true rfl) ⟨rfl, rfl, (Nat.le_of_ble_eq_true rfl), (Nat.le_of_ble_eq_true rfl)⟩ dX11_share_27 (fun okq6 => ?_)
      refine at_aload_n (pc := 30) C 0 dX11_share_30 rfl rfl ?_
      refine at_getr (pc := 31) (k' := 46) C 46 fw_11_50 kd0 rfl (Nat.le_of_ble_eq_true rfl) rfl rfl dX11_share_31 ?_
      refine at_getr (pc := 34) (k' := 49) C 3 fw_11_205 kd46 rfl (Nat.le_of_ble_eq_true rfl) rfl rfl dX11_share_34 ?_
      refine at_iload_n (pc := 37) C 1 dX11_share_37 rfl rfl ?_
      refine at_bipush (pc := 38) C dX11_share_38 (by decide) ?_
      refine at_imul (pc := 40) C dX11_share_40 ?_
      refine at_iload_n (pc := 41) C 2 dX11_share_41 rfl rfl ?_
      refine at_iadd (pc := 42) C dX11_share_42 ?_
      obtain ⟨b7, hF⟩ := inb_some hF
      refine at_faload (pc := 43) C kd49 b7 dX11_share_43 ?_
      obtain ⟨q8, eq8, hF⟩ := bind_some' hF
      refine at_callS (pc := 44) C (c_X11_bitsOf l g N (fb (q6.2 49 (ja (jm v1 8) v2))) q6 q8  okq6 eq8) ks_X11_bitsOf w748 rfl rfl (Nat.le_of_ble_eq_true rfl) ⟨rfl, rfl, (Nat.le_of_ble_eq_true rfl), (Nat.le_of_ble_eq_true rfl)⟩ dX11_share_44 (fun tq8 okq8 => ?_)
      obtain rfl := Option.some.inj hF
      exact at_iret (pc := 47) C hr hlk tq8 okq6 dX11_share_47
    · have hF := (if_pos c4).symm.trans hF
      refine at_iconst (pc := 16) C dX11_share_16 ?_
      obtain rfl := Option.some.inj hF
      exact at_iret (pc := 17) C hr hlk (show inR (-1) from ⟨by decide, by decide⟩) ok dX11_share_17
abbrev rm_X11_parts : Room := { frames := 2, cells := 0, slots := 0, locals := 48 }
def F_X11_parts (N : Nat) (v1 : Int) (v2 : Int) (v3 : Int) (σ : Sto) : Option (Int × Sto) :=
  (F_X11_areMembers N v1 v2 σ).bind (fun q1 => if q1 = 0 then (some ((-1), σ)) else ((F_X11_isDay N v3 σ).bind (fun q3 => if q3 = 0 then (some ((-1), σ)) else (asB (σ.1 0 1) (fun b5 => (F_X10_load N b5 v3 σ).bind (fun q6 => inb (ja (jm v1 8) v2) 64 (grd (vf_n64 (FP.f2d (fb (q6.2 49 (ja (jm v1 8) v2))))) (dn64 _) (grd (vf_n64 (FP.dmul (FP.f2d (fb (q6.2 49 (ja (jm v1 8) v2)))) 4666723172467343360)) (dn64 _) (grd (vf_n64 (FP.dadd (FP.dmul (FP.f2d (fb (q6.2 49 (ja (jm v1 8) v2)))) 4666723172467343360) 4602678819172646912)) (dn64 _) (some ((jd2i (FP.dadd (FP.dmul (FP.f2d (fb (q6.2 49 (ja (jm v1 8) v2)))) 4666723172467343360) 4602678819172646912)), q6)))))))))))
set_option maxHeartbeats 4000000 in
set_option maxRecDepth 100000 in
theorem c_X11_parts (l : Launch) (g : Geo) (N : Nat) (v1 : Int) (v2 : Int) (v3 : Int) (σ : Sto) (res : Int × Sto) (h1 : inR v1) (h2 : inR v2) (h3 : inR v3) (ok : OK σ) (hF : F_X11_parts N v1 v2 v3 σ = some res) : MtI l g yX11_parts cX11_parts 6 (some .int) rm_X11_parts [vr g 0, vi v1, vi v2, vi v3] σ res.1 res.2 inR := by
  intro sz
  refine Met.ofAt (own := RX11) (QQ := fun z => QI g z res.1 res.2 inR) (by decide +kernel) (Nat.le_of_ble_eq_true rfl) rfl ?_
  intro p e s m args below meth c C hr hlk
  show At p l e rm_X11_parts s m args below meth c 0 0 g 6 (MQ below (QI g s.heap.size res.1 res.2 inR) args s 0 0 (AA g s.heap.size)) 0 [(0, vr g 0), (1, vi v1), (2, vi v2), (3, vi v3)] [] σ
  unfold F_X11_parts at hF
  refine at_aload_n (pc := 0) C 0 dX11_parts_0 rfl rfl ?_
  refine at_iload_n (pc := 1) C 1 dX11_parts_1 rfl rfl ?_
  refine at_iload_n (pc := 2) C 2 dX11_parts_2 rfl rfl ?_
  obtain ⟨q1, eq1, hF⟩ := bind_some' hF
  refine at_callV (pc := 3) (ci := 11) C (c_X11_areMembers l g N v1 v2 σ q1 h1 h2 ok eq1) kv_X11_areMembers w720 kd0 rfl rfl rfl rfl (Nat.le_of_ble_eq_true rfl) ⟨rfl, rfl, (Nat.le_of_ble_eq_true rfl), (Nat.le_of_ble_eq_true rfl)⟩ dX11_parts_3 (fun tq1 okq1 => ?_)
  refine at_if_eq (pc := 6) (tgt := 16) C (isB.r tq1) dX11_parts_6 rfl (fun c2 => ?_) (fun c2 => ?_)
  · have hF := (if_pos c2).symm.trans hF
    refine at_iconst (pc := 16) C dX11_parts_16 ?_
    obtain rfl := Option.some.inj hF
    exact at_iret (pc := 17) C hr hlk (show inR (-1) from ⟨by decide, by decide⟩) ok dX11_parts_17
  · have hF := (if_neg c2).symm.trans hF
    refine at_iload_n (pc := 9) C 3 dX11_parts_9 rfl rfl ?_
    obtain ⟨q3, eq3, hF⟩ := bind_some' hF
    refine at_callS (pc := 10) C (c_X11_isDay l g N v3 σ q3 h3 ok eq3) ks_X11_isDay w728 rfl rfl (Nat.le_of_ble_eq_true rfl) ⟨rfl, rfl, (Nat.le_of_ble_eq_true rfl), (Nat.le_of_ble_eq_true rfl)⟩ dX11_parts_10 (fun tq3 okq3 => ?_)
    refine at_if_ne (pc := 13) (tgt := 18) C (isB.r tq3) dX11_parts_13 rfl (fun c4 => ?_) (fun c4 => ?_)
    · have hF := (if_neg c4).symm.trans hF
      refine at_aload_n (pc := 18) C 0 dX11_parts_18 rfl rfl ?_
      refine at_getr (pc := 19) (k' := 46) C 46 fw_11_50 kd0 rfl (Nat.le_of_ble_eq_true rfl) rfl rfl dX11_parts_19 ?_
      refine at_aload_n (pc := 22) C 0 dX11_parts_22 rfl rfl ?_
      obtain ⟨b5, eb5, kb5, hF⟩ := asB_some hF
      refine at_getd (pc := 23) (jz := 1) (k2 := b5) C fw_11_19 kd0 rfl (Nat.le_of_ble_eq_true rfl) rfl rfl eb5 dX11_parts_23 ?_
      refine at_iload_n (pc := 26) C 3 dX11_parts_26 rfl rfl ?_
      obtain ⟨q6, eq6, hF⟩ := bind_some' hF
      refine at_callVv (pc := 27) (ci := 10) C (c_X10_load l g N b5 v3 σ q6 kb5 h3 ok eq6) kv_X10_load w731 kd46 rfl rfl rfl rfl (Nat.le_of_ble_eq_true rfl) ⟨rfl, rfl, (Nat.le_of_ble_eq_true rfl), (Nat.le_of_ble_eq_true rfl)⟩ dX11_parts_27 (fun okq6 => ?_)
      refine at_aload_n (pc := 30) C 0 dX11_parts_30 rfl rfl ?_
      refine at_getr (pc := 31) (k' := 46) C 46 fw_11_50 kd0 rfl (Nat.le_of_ble_eq_true rfl) rfl rfl dX11_parts_31 ?_
      refine at_getr (pc := 34) (k' := 49) C 3 fw_11_205 kd46 rfl (Nat.le_of_ble_eq_true rfl) rfl rfl dX11_parts_34 ?_
      refine at_iload_n (pc := 37) C 1 dX11_parts_37 rfl rfl ?_
      refine at_bipush (pc := 38) C dX11_parts_38 (by decide) ?_
      refine at_imul (pc := 40) C dX11_parts_40 ?_
      refine at_iload_n (pc := 41) C 2 dX11_parts_41 rfl rfl ?_
      refine at_iadd (pc := 42) C dX11_parts_42 ?_
      obtain ⟨b7, hF⟩ := inb_some hF
      refine at_faload (pc := 43) C kd49 b7 dX11_parts_43 ?_
      obtain ⟨n8, hF⟩ := grd_some hF
      refine at_f2d (pc := 44) C dX11_parts_44 n8 ?_
      refine at_dstore (pc := 45) (lv' := [(4, .double (FP.f2d (fb (q6.2 49 (ja (jm v1 8) v2))))), (0, vr g 0), (1, vi v1), (2, vi v2), (3, vi v3)]) C dX11_parts_45 (Nat.le_of_ble_eq_true rfl) rfl ?_
      refine at_dload (pc := 47) C 0 dX11_parts_47 rfl ?_
      refine at_ldc2d (pc := 49) C dX11_parts_49 w756 ?_
      obtain ⟨n9, hF⟩ := grd_some hF
      refine at_dmul (pc := 52) C dX11_parts_52 n9 ?_
      refine at_ldc2d (pc := 53) C dX11_parts_53 w757 ?_
      obtain ⟨n10, hF⟩ := grd_some hF
      refine at_dadd (pc := 56) C dX11_parts_56 n10 ?_
      refine at_d2i (pc := 57) C dX11_parts_57 ?_
      obtain rfl := Option.some.inj hF
      exact at_iret (pc := 58) C hr hlk (jd2i_R (FP.dadd (FP.dmul (FP.f2d (fb (q6.2 49 (ja (jm v1 8) v2)))) 4666723172467343360) 4602678819172646912)) okq6 dX11_parts_58
    · have hF := (if_pos c4).symm.trans hF
      refine at_iconst (pc := 16) C dX11_parts_16 ?_
      obtain rfl := Option.some.inj hF
      exact at_iret (pc := 17) C hr hlk (show inR (-1) from ⟨by decide, by decide⟩) ok dX11_parts_17
abbrev rm_X11_controls : Room := { frames := 3, cells := 0, slots := 0, locals := 65 }
def F_X11_controls (N : Nat) (v1 : Int) (v2 : Int) (v3 : Int) (σ : Sto) : Option (Int × Sto) :=
  (F_X11_isPair N v1 v2 σ).bind (fun q1 => if q1 = 0 then (some ((-1), σ)) else ((F_X11_isDay N v3 σ).bind (fun q3 => if q3 = 0 then (some ((-1), σ)) else (asB (σ.1 0 1) (fun b5 => (F_X10_load N b5 v3 σ).bind (fun q6 => asB (q6.1 0 1) (fun b7 => (F_X10_judge N (q6.1 b7 10) q6).bind (fun q8 => inb v1 8 (some ((jand (jshr (q8.1 50 v1) v2) 1), q8))))))))))
set_option maxHeartbeats 4000000 in
set_option maxRecDepth 100000 in
theorem c_X11_controls (l : Launch) (g : Geo) (N : Nat) (v1 : Int) (v2 : Int) (v3 : Int) (σ : Sto) (res : Int × Sto) (h1 : inR v1) (h2 : inR v2) (h3 : inR v3) (ok : OK σ) (hF : F_X11_controls N v1 v2 v3 σ = some res) : MtI l g yX11_controls cX11_controls 4 (some .int) rm_X11_controls [vr g 0, vi v1, vi v2, vi v3] σ res.1 res.2 inR := by
  intro sz
  refine Met.ofAt (own := RX11) (QQ := fun z => QI g z res.1 res.2 inR) (by decide +kernel) (Nat.le_of_ble_eq_true rfl) rfl ?_
  intro p e s m args below meth c C hr hlk
  show At p l e rm_X11_controls s m args below meth c 0 0 g 4 (MQ below (QI g s.heap.size res.1 res.2 inR) args s 0 0 (AA g s.heap.size)) 0 [(0, vr g 0), (1, vi v1), (2, vi v2), (3, vi v3)] [] σ
  unfold F_X11_controls at hF
  refine at_aload_n (pc := 0) C 0 dX11_controls_0 rfl rfl ?_
  refine at_iload_n (pc := 1) C 1 dX11_controls_1 rfl rfl ?_
  refine at_iload_n (pc := 2) C 2 dX11_controls_2 rfl rfl ?_
  obtain ⟨q1, eq1, hF⟩ := bind_some' hF
  refine at_callV (pc := 3) (ci := 11) C (c_X11_isPair l g N v1 v2 σ q1 h1 h2 ok eq1) kv_X11_isPair w716 kd0 rfl rfl rfl rfl (Nat.le_of_ble_eq_true rfl) ⟨rfl, rfl, (Nat.le_of_ble_eq_true rfl), (Nat.le_of_ble_eq_true rfl)⟩ dX11_controls_3 (fun tq1 okq1 => ?_)
  refine at_if_eq (pc := 6) (tgt := 16) C (isB.r tq1) dX11_controls_6 rfl (fun c2 => ?_) (fun c2 => ?_)
  · have hF := (if_pos c2).symm.trans hF
    refine at_iconst (pc := 16) C dX11_controls_16 ?_
    obtain rfl := Option.some.inj hF
    exact at_iret (pc := 17) C hr hlk (show inR (-1) from ⟨by decide, by decide⟩) ok dX11_controls_17
  · have hF := (if_neg c2).symm.trans hF
    refine at_iload_n (pc := 9) C 3 dX11_controls_9 rfl rfl ?_
    obtain ⟨q3, eq3, hF⟩ := bind_some' hF
    refine at_callS (pc := 10) C (c_X11_isDay l g N v3 σ q3 h3 ok eq3) ks_X11_isDay w728 rfl rfl (Nat.le_of_ble_eq_true rfl) ⟨rfl, rfl, (Nat.le_of_ble_eq_true rfl), (Nat.le_of_ble_eq_true rfl)⟩ dX11_controls_10 (fun tq3 okq3 => ?_)
    refine at_if_ne (pc := 13) (tgt := 18) C (isB.r tq3) dX11_controls_13 rfl (fun c4 => ?_) (fun c4 => ?_)
    · have hF := (if_neg c4).symm.trans hF
      refine at_aload_n (pc := 18) C 0 dX11_controls_18 rfl rfl ?_
      refine at_getr (pc := 19) (k' := 46) C 46 fw_11_50 kd0 rfl (Nat.le_of_ble_eq_true rfl) rfl rfl dX11_controls_19 ?_
      refine at_aload_n (pc := 22) C 0 dX11_controls_22 rfl rfl ?_
      obtain ⟨b5, eb5, kb5, hF⟩ := asB_some hF
      refine at_getd (pc := 23) (jz := 1) (k2 := b5) C fw_11_19 kd0 rfl (Nat.le_of_ble_eq_true rfl) rfl rfl eb5 dX11_controls_23 ?_
      refine at_iload_n (pc := 26) C 3 dX11_controls_26 rfl rfl ?_
      obtain ⟨q6, eq6, hF⟩ := bind_some' hF
      refine at_callVv (pc := 27) (ci := 10) C (c_X10_load l g N b5 v3 σ q6 kb5 h3 ok eq6) kv_X10_load w731 kd46 rfl rfl rfl rfl (Nat.le_of_ble_eq_true rfl) ⟨rfl, rfl, (Nat.le_of_ble_eq_true rfl), (Nat.le_of_ble_eq_true rfl)⟩ dX11_controls_27 (fun okq6 => ?_)
      refine at_aload_n (pc := 30) C 0 dX11_controls_30 rfl rfl ?_
      refine at_getr (pc := 31) (k' := 46) C 46 fw_11_50 kd0 rfl (Nat.le_of_ble_eq_true rfl) rfl rfl dX11_controls_31 ?_
      refine at_aload_n (pc := 34) C 0 dX11_controls_34 rfl rfl ?_
      obtain ⟨b7, eb7, kb7, hF⟩ := asB_some hF
      refine at_getd (pc := 35) (jz := 1) (k2 := b7) C fw_11_19 kd0 rfl (Nat.le_of_ble_eq_true rfl) rfl rfl eb7 dX11_controls_35 ?_
      refine at_geti (pc := 38) (jz := 10) C fw_11_217 kb7 rfl (Nat.le_of_ble_eq_true rfl) rfl rfl dX11_controls_38 ?_
      obtain ⟨q8, eq8, hF⟩ := bind_some' hF
      refine at_callVv (pc := 41) (ci := 10) C (c_X10_judge l g N (q6.1 b7 10) q6 q8 (okq6 b7 10) okq6 eq8) kv_X10_judge w762 kd46 rfl rfl rfl rfl (Nat.le_of_ble_eq_true rfl) ⟨rfl, rfl, (Nat.le_of_ble_eq_true rfl), (Nat.le_of_ble_eq_true rfl)⟩ dX11_controls_41 (fun okq8 => ?_)
      refine at_aload_n (pc := 44) C 0 dX11_controls_44 rfl rfl ?_
      refine at_getr (pc := 45) (k' := 46) C 46 fw_11_50 kd0 rfl (Nat.le_of_ble_eq_true rfl) rfl rfl dX11_controls_45 ?_
      refine at_getr (pc := 48) (k' := 50) C 4 fw_11_223 kd46 rfl (Nat.le_of_ble_eq_true rfl) rfl rfl dX11_controls_48 ?_
      refine at_iload_n (pc := 51) C 1 dX11_controls_51 rfl rfl ?_
      obtain ⟨b9, hF⟩ := inb_some hF
      refine at_iaload (pc := 52) C kd50 b9 dX11_controls_52 ?_
      refine at_iload_n (pc := 53) C 2 dX11_controls_53 rfl rfl ?_
      refine at_ishr (pc := 54) C dX11_controls_54 ?_
      refine at_iconst (pc := 55) C dX11_controls_55 ?_
      refine at_iand (pc := 56) C dX11_controls_56 ?_
      obtain rfl := Option.some.inj hF
      exact at_iret (pc := 57) C hr hlk (jand_R (jshr (q8.1 50 v1) v2) 1) okq8 dX11_controls_57
    · have hF := (if_pos c4).symm.trans hF
      refine at_iconst (pc := 16) C dX11_controls_16 ?_
      obtain rfl := Option.some.inj hF
      exact at_iret (pc := 17) C hr hlk (show inR (-1) from ⟨by decide, by decide⟩) ok dX11_controls_17
abbrev rm_X11_related : Room := { frames := 2, cells := 0, slots := 0, locals := 48 }
def F_X11_related (N : Nat) (v1 : Int) (v2 : Int) (σ : Sto) : Option (Int × Sto) :=
  asB (σ.1 0 1) (fun b1 => (F_X0_hasMember N b1 v1 σ).bind (fun q2 => if q2 = 0 then (some ((-1), σ)) else ((F_X11_isDay N v2 σ).bind (fun q4 => if q4 = 0 then (some ((-1), σ)) else (asB (σ.1 0 1) (fun b6 => (F_X10_load N b6 v2 σ).bind (fun q7 => asB (q7.1 0 1) (fun b8 => (F_X10_judge N (q7.1 b8 10) q7).bind (fun q9 => (F_X10_relativesOf N v1 q9).bind (fun q10 => some (q10, q9)))))))))))
set_option maxHeartbeats 4000000 in
set_option maxRecDepth 100000 in
theorem c_X11_related (l : Launch) (g : Geo) (N : Nat) (v1 : Int) (v2 : Int) (σ : Sto) (res : Int × Sto) (h1 : inR v1) (h2 : inR v2) (ok : OK σ) (hF : F_X11_related N v1 v2 σ = some res) : MtI l g yX11_related cX11_related 3 (some .int) rm_X11_related [vr g 0, vi v1, vi v2] σ res.1 res.2 inR := by
  intro sz
  refine Met.ofAt (own := RX11) (QQ := fun z => QI g z res.1 res.2 inR) (by decide +kernel) (Nat.le_of_ble_eq_true rfl) rfl ?_
  intro p e s m args below meth c C hr hlk
  show At p l e rm_X11_related s m args below meth c 0 0 g 3 (MQ below (QI g s.heap.size res.1 res.2 inR) args s 0 0 (AA g s.heap.size)) 0 [(0, vr g 0), (1, vi v1), (2, vi v2)] [] σ
  unfold F_X11_related at hF
  refine at_aload_n (pc := 0) C 0 dX11_related_0 rfl rfl ?_
  obtain ⟨b1, eb1, kb1, hF⟩ := asB_some hF
  refine at_getd (pc := 1) (jz := 1) (k2 := b1) C fw_11_19 kd0 rfl (Nat.le_of_ble_eq_true rfl) rfl rfl eb1 dX11_related_1 ?_
  refine at_iload_n (pc := 4) C 1 dX11_related_4 rfl rfl ?_
  obtain ⟨q2, eq2, hF⟩ := bind_some' hF
  refine at_callV (pc := 5) (ci := 0) C (c_X0_hasMember l g N b1 v1 σ q2 kb1 h1 ok eq2) kv_X0_hasMember w724 kb1 rfl rfl rfl rfl (Nat.le_of_ble_eq_true rfl) ⟨rfl, rfl, (Nat.le_of_ble_eq_true rfl), (Nat.le_of_ble_eq_true rfl)⟩ dX11_related_5 (fun tq2 okq2 => ?_)
  refine at_if_eq (pc := 8) (tgt := 18) C (isB.r tq2) dX11_related_8 rfl (fun c3 => ?_) (fun c3 => ?_)
  · have hF := (if_pos c3).symm.trans hF
    refine at_iconst (pc := 18) C dX11_related_18 ?_
    obtain rfl := Option.some.inj hF
    exact at_iret (pc := 19) C hr hlk (show inR (-1) from ⟨by decide, by decide⟩) ok dX11_related_19
  · have hF := (if_neg c3).symm.trans hF
    refine at_iload_n (pc := 11) C 2 dX11_related_11 rfl rfl ?_
    obtain ⟨q4, eq4, hF⟩ := bind_some' hF
    refine at_callS (pc := 12) C (c_X11_isDay l g N v2 σ q4 h2 ok eq4) ks_X11_isDay w728 rfl rfl (Nat.le_of_ble_eq_true rfl) ⟨rfl, rfl, (Nat.le_of_ble_eq_true rfl), (Nat.le_of_ble_eq_true rfl)⟩ dX11_related_12 (fun tq4 okq4 => ?_)
    refine at_if_ne (pc := 15) (tgt := 20) C (isB.r tq4) dX11_related_15 rfl (fun c5 => ?_) (fun c5 => ?_)
    · have hF := (if_neg c5).symm.trans hF
      refine at_aload_n (pc := 20) C 0 dX11_related_20 rfl rfl ?_
      refine at_getr (pc := 21) (k' := 46) C 46 fw_11_50 kd0 rfl (Nat.le_of_ble_eq_true rfl) rfl rfl dX11_related_21 ?_
      refine at_aload_n (pc := 24) C 0 dX11_related_24 rfl rfl ?_
      obtain ⟨b6, eb6, kb6, hF⟩ := asB_some hF
      refine at_getd (pc := 25) (jz := 1) (k2 := b6) C fw_11_19 kd0 rfl (Nat.le_of_ble_eq_true rfl) rfl rfl eb6 dX11_related_25 ?_
      refine at_iload_n (pc := 28) C 2 dX11_related_28 rfl rfl ?_
      obtain ⟨q7, eq7, hF⟩ := bind_some' hF
      refine at_callVv (pc := 29) (ci := 10) C (c_X10_load l g N b6 v2 σ q7 kb6 h2 ok eq7) kv_X10_load w731 kd46 rfl rfl rfl rfl (Nat.le_of_ble_eq_true rfl) ⟨rfl, rfl, (Nat.le_of_ble_eq_true rfl), (Nat.le_of_ble_eq_true rfl)⟩ dX11_related_29 (fun okq7 => ?_)
      refine at_aload_n (pc := 32) C 0 dX11_related_32 rfl rfl ?_
      refine at_getr (pc := 33) (k' := 46) C 46 fw_11_50 kd0 rfl (Nat.le_of_ble_eq_true rfl) rfl rfl dX11_related_33 ?_
      refine at_aload_n (pc := 36) C 0 dX11_related_36 rfl rfl ?_
      obtain ⟨b8, eb8, kb8, hF⟩ := asB_some hF
      refine at_getd (pc := 37) (jz := 1) (k2 := b8) C fw_11_19 kd0 rfl (Nat.le_of_ble_eq_true rfl) rfl rfl eb8 dX11_related_37 ?_
      refine at_geti (pc := 40) (jz := 10) C fw_11_217 kb8 rfl (Nat.le_of_ble_eq_true rfl) rfl rfl dX11_related_40 ?_
      obtain ⟨q9, eq9, hF⟩ := bind_some' hF
      refine at_callVv (pc := 43) (ci := 10) C (c_X10_judge l g N (q7.1 b8 10) q7 q9 (okq7 b8 10) okq7 eq9) kv_X10_judge w762 kd46 rfl rfl rfl rfl (Nat.le_of_ble_eq_true rfl) ⟨rfl, rfl, (Nat.le_of_ble_eq_true rfl), (Nat.le_of_ble_eq_true rfl)⟩ dX11_related_43 (fun okq9 => ?_)
      refine at_aload_n (pc := 46) C 0 dX11_related_46 rfl rfl ?_
      refine at_getr (pc := 47) (k' := 46) C 46 fw_11_50 kd0 rfl (Nat.le_of_ble_eq_true rfl) rfl rfl dX11_related_47 ?_
      refine at_iload_n (pc := 50) C 1 dX11_related_50 rfl rfl ?_
      obtain ⟨q10, eq10, hF⟩ := bind_some' hF
      refine at_callV (pc := 51) (ci := 10) C (c_X10_relativesOf l g N v1 q9 q10 h1 okq9 eq10) kv_X10_relativesOf w770 kd46 rfl rfl rfl rfl (Nat.le_of_ble_eq_true rfl) ⟨rfl, rfl, (Nat.le_of_ble_eq_true rfl), (Nat.le_of_ble_eq_true rfl)⟩ dX11_related_51 (fun tq10 okq10 => ?_)
      obtain rfl := Option.some.inj hF
      exact at_iret (pc := 54) C hr hlk tq10 okq9 dX11_related_54
    · have hF := (if_pos c5).symm.trans hF
      refine at_iconst (pc := 18) C dX11_related_18 ?_
      obtain rfl := Option.some.inj hF
      exact at_iret (pc := 19) C hr hlk (show inR (-1) from ⟨by decide, by decide⟩) ok dX11_related_19
abbrev rm_X11_groups : Room := { frames := 3, cells := 0, slots := 0, locals := 70 }
def F_X11_groups (N : Nat) (v1 : Int) (σ : Sto) : Option (Int × Sto) :=
  (F_X11_isDay N v1 σ).bind (fun q1 => if q1 = 0 then (some ((-1), σ)) else (asB (σ.1 0 1) (fun b3 => (F_X10_load N b3 v1 σ).bind (fun q4 => asB (q4.1 0 1) (fun b5 => (F_X10_judge N (q4.1 b5 10) q4).bind (fun q6 => (F_X10_countGroups N q6).bind (fun q7 => some (q7, q6))))))))
set_option maxHeartbeats 4000000 in
set_option maxRecDepth 100000 in
theorem c_X11_groups (l : Launch) (g : Geo) (N : Nat) (v1 : Int) (σ : Sto) (res : Int × Sto) (h1 : inR v1) (ok : OK σ) (hF : F_X11_groups N v1 σ = some res) : MtI l g yX11_groups cX11_groups 2 (some .int) rm_X11_groups [vr g 0, vi v1] σ res.1 res.2 inR := by
  intro sz
  refine Met.ofAt (own := RX11) (QQ := fun z => QI g z res.1 res.2 inR) (by decide +kernel) (Nat.le_of_ble_eq_true rfl) rfl ?_
  intro p e s m args below meth c C hr hlk
  show At p l e rm_X11_groups s m args below meth c 0 0 g 2 (MQ below (QI g s.heap.size res.1 res.2 inR) args s 0 0 (AA g s.heap.size)) 0 [(0, vr g 0), (1, vi v1)] [] σ
  unfold F_X11_groups at hF
  refine at_iload_n (pc := 0) C 1 dX11_groups_0 rfl rfl ?_
  obtain ⟨q1, eq1, hF⟩ := bind_some' hF
  refine at_callS (pc := 1) C (c_X11_isDay l g N v1 σ q1 h1 ok eq1) ks_X11_isDay w728 rfl rfl (Nat.le_of_ble_eq_true rfl) ⟨rfl, rfl, (Nat.le_of_ble_eq_true rfl), (Nat.le_of_ble_eq_true rfl)⟩ dX11_groups_1 (fun tq1 okq1 => ?_)
  refine at_if_ne (pc := 4) (tgt := 9) C (isB.r tq1) dX11_groups_4 rfl (fun c2 => ?_) (fun c2 => ?_)
  · have hF := (if_neg c2).symm.trans hF
    refine at_aload_n (pc := 9) C 0 dX11_groups_9 rfl rfl ?_
    refine at_getr (pc := 10) (k' := 46) C 46 fw_11_50 kd0 rfl (Nat.le_of_ble_eq_true rfl) rfl rfl dX11_groups_10 ?_
    refine at_aload_n (pc := 13) C 0 dX11_groups_13 rfl rfl ?_
    obtain ⟨b3, eb3, kb3, hF⟩ := asB_some hF
    refine at_getd (pc := 14) (jz := 1) (k2 := b3) C fw_11_19 kd0 rfl (Nat.le_of_ble_eq_true rfl) rfl rfl eb3 dX11_groups_14 ?_
    refine at_iload_n (pc := 17) C 1 dX11_groups_17 rfl rfl ?_
    obtain ⟨q4, eq4, hF⟩ := bind_some' hF
    refine at_callVv (pc := 18) (ci := 10) C (c_X10_load l g N b3 v1 σ q4 kb3 h1 ok eq4) kv_X10_load w731 kd46 rfl rfl rfl rfl (Nat.le_of_ble_eq_true rfl) ⟨rfl, rfl, (Nat.le_of_ble_eq_true rfl), (Nat.le_of_ble_eq_true rfl)⟩ dX11_groups_18 (fun okq4 => ?_)
    refine at_aload_n (pc := 21) C 0 dX11_groups_21 rfl rfl ?_
    refine at_getr (pc := 22) (k' := 46) C 46 fw_11_50 kd0 rfl (Nat.le_of_ble_eq_true rfl) rfl rfl dX11_groups_22 ?_
    refine at_aload_n (pc := 25) C 0 dX11_groups_25 rfl rfl ?_
    obtain ⟨b5, eb5, kb5, hF⟩ := asB_some hF
    refine at_getd (pc := 26) (jz := 1) (k2 := b5) C fw_11_19 kd0 rfl (Nat.le_of_ble_eq_true rfl) rfl rfl eb5 dX11_groups_26 ?_
    refine at_geti (pc := 29) (jz := 10) C fw_11_217 kb5 rfl (Nat.le_of_ble_eq_true rfl) rfl rfl dX11_groups_29 ?_
    obtain ⟨q6, eq6, hF⟩ := bind_some' hF
    refine at_callVv (pc := 32) (ci := 10) C (c_X10_judge l g N (q4.1 b5 10) q4 q6 (okq4 b5 10) okq4 eq6) kv_X10_judge w762 kd46 rfl rfl rfl rfl (Nat.le_of_ble_eq_true rfl) ⟨rfl, rfl, (Nat.le_of_ble_eq_true rfl), (Nat.le_of_ble_eq_true rfl)⟩ dX11_groups_32 (fun okq6 => ?_)
    refine at_aload_n (pc := 35) C 0 dX11_groups_35 rfl rfl ?_
    refine at_getr (pc := 36) (k' := 46) C 46 fw_11_50 kd0 rfl (Nat.le_of_ble_eq_true rfl) rfl rfl dX11_groups_36 ?_
    obtain ⟨q7, eq7, hF⟩ := bind_some' hF
    refine at_callV (pc := 39) (ci := 10) C (c_X10_countGroups l g N  q6 q7  okq6 eq7) kv_X10_countGroups w778 kd46 rfl rfl rfl rfl (Nat.le_of_ble_eq_true rfl) ⟨rfl, rfl, (Nat.le_of_ble_eq_true rfl), (Nat.le_of_ble_eq_true rfl)⟩ dX11_groups_39 (fun tq7 okq7 => ?_)
    obtain rfl := Option.some.inj hF
    exact at_iret (pc := 42) C hr hlk tq7 okq6 dX11_groups_42
  · have hF := (if_pos c2).symm.trans hF
    refine at_iconst (pc := 7) C dX11_groups_7 ?_
    obtain rfl := Option.some.inj hF
    exact at_iret (pc := 8) C hr hlk (show inR (-1) from ⟨by decide, by decide⟩) ok dX11_groups_8
abbrev rm_X11_refreshNet : Room := { frames := 4, cells := 0, slots := 0, locals := 110 }
def F_X11_refreshNet (N : Nat)  (σ : Sto) : Option (Sto) :=
  if (σ.1 0 16) = 0 then (asB (σ.1 0 1) (fun b2 => asB (σ.1 0 1) (fun b3 => (F_X4_fill N 52 b2 (σ.1 b3 10) σ).bind (fun q4 => asB (q4.1 0 1) (fun b5 => asB (q4.1 0 1) (fun b6 => asB (q4.1 0 1) (fun b7 => (F_X6_fill N 55 b5 52 (q4.1 b6 12) (b7 + 5) q4).bind (fun q8 => some (upI q8 0 16 1))))))))) else (some σ)
set_option maxHeartbeats 4000000 in
set_option maxRecDepth 100000 in
theorem c_X11_refreshNet (l : Launch) (g : Geo) (N : Nat)  (σ : Sto) (res : Sto)  (ok : OK σ) (hF : F_X11_refreshNet N  σ = some res) : MtV l g yX11_refreshNet cX11_refreshNet 1 none rm_X11_refreshNet [vr g 0] σ res := by
  intro sz
  refine Met.ofAt (own := RX11) (QQ := fun z => QV g z res) (by decide +kernel) (Nat.le_of_ble_eq_true rfl) rfl ?_
  intro p e s m args below meth c C hr hlk
  show At p l e rm_X11_refreshNet s m args below meth c 0 0 g 1 (MQ below (QV g s.heap.size res) args s 0 0 (AA g s.heap.size)) 0 [(0, vr g 0)] [] σ
  unfold F_X11_refreshNet at hF
  refine at_aload_n (pc := 0) C 0 dX11_refreshNet_0 rfl rfl ?_
  refine at_geti (pc := 1) (jz := 16) C fw_11_98 kd0 rfl (Nat.le_of_ble_eq_true rfl) rfl rfl dX11_refreshNet_1 ?_
  refine at_if_ne (pc := 4) (tgt := 63) C (ok 0 16) dX11_refreshNet_4 rfl (fun c1 => ?_) (fun c1 => ?_)
  · have hF := (if_neg c1).symm.trans hF
    obtain rfl := Option.some.inj hF
    exact at_vret (pc := 63) C hr hlk ok dX11_refreshNet_63
  · have hF := (if_pos c1).symm.trans hF
    refine at_aload_n (pc := 7) C 0 dX11_refreshNet_7 rfl rfl ?_
    refine at_getr (pc := 8) (k' := 52) C 52 fw_11_57 kd0 rfl (Nat.le_of_ble_eq_true rfl) rfl rfl dX11_refreshNet_8 ?_
    refine at_aload_n (pc := 11) C 0 dX11_refreshNet_11 rfl rfl ?_
    obtain ⟨b2, eb2, kb2, hF⟩ := asB_some hF
    refine at_getd (pc := 12) (jz := 1) (k2 := b2) C fw_11_19 kd0 rfl (Nat.le_of_ble_eq_true rfl) rfl rfl eb2 dX11_refreshNet_12 ?_
    refine at_aload_n (pc := 15) C 0 dX11_refreshNet_15 rfl rfl ?_
    obtain ⟨b3, eb3, kb3, hF⟩ := asB_some hF
    refine at_getd (pc := 16) (jz := 1) (k2 := b3) C fw_11_19 kd0 rfl (Nat.le_of_ble_eq_true rfl) rfl rfl eb3 dX11_refreshNet_16 ?_
    refine at_geti (pc := 19) (jz := 10) C fw_11_217 kb3 rfl (Nat.le_of_ble_eq_true rfl) rfl rfl dX11_refreshNet_19 ?_
    refine at_aload_n (pc := 22) C 0 dX11_refreshNet_22 rfl rfl ?_
    refine at_getr (pc := 23) (k' := 46) C 46 fw_11_50 kd0 rfl (Nat.le_of_ble_eq_true rfl) rfl rfl dX11_refreshNet_23 ?_
    obtain ⟨q4, eq4, hF⟩ := bind_some' hF
    refine at_callVv (pc := 26) (ci := 4) C (c_X4_fill l g N 52 b2 (σ.1 b3 10) σ q4 kd52 kb2 (ok b3 10) ok eq4) kv_X4_fill w795 kd52 rfl rfl rfl rfl (Nat.le_of_ble_eq_true rfl) ⟨rfl, rfl, (Nat.le_of_ble_eq_true rfl), (Nat.le_of_ble_eq_true rfl)⟩ dX11_refreshNet_26 (fun okq4 => ?_)
    refine at_aload_n (pc := 29) C 0 dX11_refreshNet_29 rfl rfl ?_
    refine at_getr (pc := 30) (k' := 55) C 55 fw_11_64 kd0 rfl (Nat.le_of_ble_eq_true rfl) rfl rfl dX11_refreshNet_30 ?_
    refine at_aload_n (pc := 33) C 0 dX11_refreshNet_33 rfl rfl ?_
    obtain ⟨b5, eb5, kb5, hF⟩ := asB_some hF
    refine at_getd (pc := 34) (jz := 1) (k2 := b5) C fw_11_19 kd0 rfl (Nat.le_of_ble_eq_true rfl) rfl rfl eb5 dX11_refreshNet_34 ?_
    refine at_aload_n (pc := 37) C 0 dX11_refreshNet_37 rfl rfl ?_
    refine at_getr (pc := 38) (k' := 52) C 52 fw_11_57 kd0 rfl (Nat.le_of_ble_eq_true rfl) rfl rfl dX11_refreshNet_38 ?_
    refine at_aload_n (pc := 41) C 0 dX11_refreshNet_41 rfl rfl ?_
    obtain ⟨b6, eb6, kb6, hF⟩ := asB_some hF
    refine at_getd (pc := 42) (jz := 1) (k2 := b6) C fw_11_19 kd0 rfl (Nat.le_of_ble_eq_true rfl) rfl rfl eb6 dX11_refreshNet_42 ?_
    refine at_geti (pc := 45) (jz := 12) C fw_11_428 kb6 rfl (Nat.le_of_ble_eq_true rfl) rfl rfl dX11_refreshNet_45 ?_
    refine at_aload_n (pc := 48) C 0 dX11_refreshNet_48 rfl rfl ?_
    obtain ⟨b7, eb7, kb7, hF⟩ := asB_some hF
    refine at_getd (pc := 49) (jz := 1) (k2 := b7) C fw_11_19 kd0 rfl (Nat.le_of_ble_eq_true rfl) rfl rfl eb7 dX11_refreshNet_49 ?_
    refine at_getr (pc := 52) C 5 fw_11_172 kb7 rfl (Nat.le_of_ble_eq_true rfl) rfl rfl dX11_refreshNet_52 ?_
    obtain ⟨q8, eq8, hF⟩ := bind_some' hF
    refine at_callVv (pc := 55) (ci := 6) C (c_X6_fill l g N 55 b5 52 (q4.1 b6 12) (b7 + 5) q4 q8 kd55 kb5 kd52 (okq4 b6 12) (kf0_4 kb7) okq4 eq8) kv_X6_fill w806 kd55 rfl rfl rfl rfl (Nat.le_of_ble_eq_true rfl) ⟨rfl, rfl, (Nat.le_of_ble_eq_true rfl), (Nat.le_of_ble_eq_true rfl)⟩ dX11_refreshNet_55 (fun okq8 => ?_)
    refine at_aload_n (pc := 58) C 0 dX11_refreshNet_58 rfl rfl ?_
    refine at_iconst (pc := 59) C dX11_refreshNet_59 ?_
    refine at_putz (pc := 60) (jz := 16) C fu_11_98 kd0 rfl (Nat.le_of_ble_eq_true rfl) rfl (Or.inr rfl) rfl dX11_refreshNet_60 ?_
    obtain rfl := Option.some.inj hF
    exact at_vret (pc := 63) C hr hlk (OK_up (k := 0) (j := 16) okq8 (isB.r (Or.inr rfl))) dX11_refreshNet_63
abbrev rm_X11_days : Room := { frames := 5, cells := 0, slots := 0, locals := 130 }
def F_X11_days (N : Nat) (v1 : Int) (v2 : Int) (v3 : Int) (σ : Sto) : Option (Int × Sto) :=
  (F_X11_isPair N v1 v2 σ).bind (fun q1 => if q1 = 0 then (some ((-1), σ)) else (if v3 < 0 then (some ((-1), σ)) else (if v3 ≤ 2 then ((F_X11_refreshNet N σ).bind (fun q5 => if v3 = 0 then ((F_X4_firstDay N 52 v1 v2 q5).bind (fun q10 => some (q10, q5))) else (if v3 = 1 then ((F_X4_lastDay N 52 v1 v2 q5).bind (fun q9 => some (q9, q5))) else ((F_X4_daysTogether N 52 v1 v2 0 999 q5).bind (fun q8 => some (q8, q5)))))) else (some ((-1), σ)))))
set_option maxHeartbeats 4000000 in
set_option maxRecDepth 100000 in
theorem c_X11_days (l : Launch) (g : Geo) (N : Nat) (v1 : Int) (v2 : Int) (v3 : Int) (σ : Sto) (res : Int × Sto) (h1 : inR v1) (h2 : inR v2) (h3 : inR v3) (ok : OK σ) (hF : F_X11_days N v1 v2 v3 σ = some res) : MtI l g yX11_days cX11_days 4 (some .int) rm_X11_days [vr g 0, vi v1, vi v2, vi v3] σ res.1 res.2 inR := by
  intro sz
  refine Met.ofAt (own := RX11) (QQ := fun z => QI g z res.1 res.2 inR) (by decide +kernel) (Nat.le_of_ble_eq_true rfl) rfl ?_
  intro p e s m args below meth c C hr hlk
  show At p l e rm_X11_days s m args below meth c 0 0 g 4 (MQ below (QI g s.heap.size res.1 res.2 inR) args s 0 0 (AA g s.heap.size)) 0 [(0, vr g 0), (1, vi v1), (2, vi v2), (3, vi v3)] [] σ
  unfold F_X11_days at hF
  refine at_aload_n (pc := 0) C 0 dX11_days_0 rfl rfl ?_
  refine at_iload_n (pc := 1) C 1 dX11_days_1 rfl rfl ?_
  refine at_iload_n (pc := 2) C 2 dX11_days_2 rfl rfl ?_
  obtain ⟨q1, eq1, hF⟩ := bind_some' hF
  refine at_callV (pc := 3) (ci := 11) C (c_X11_isPair l g N v1 v2 σ q1 h1 h2 ok eq1) kv_X11_isPair w716 kd0 rfl rfl rfl rfl (Nat.le_of_ble_eq_true rfl) ⟨rfl, rfl, (Nat.le_of_ble_eq_true rfl), (Nat.le_of_ble_eq_true rfl)⟩ dX11_days_3 (fun tq1 okq1 => ?_)
  refine at_if_eq (pc := 6) (tgt := 18) C (isB.r tq1) dX11_days_6 rfl (fun c2 => ?_) (fun c2 => ?_)
  · have hF := (if_pos c2).symm.trans hF
    refine at_iconst (pc := 18) C dX11_days_18 ?_
    obtain rfl := Option.some.inj hF
    exact at_iret (pc := 19) C hr hlk (show inR (-1) from ⟨by decide, by decide⟩) ok dX11_days_19
  · have hF := (if_neg c2).symm.trans hF
    refine at_iload_n (pc := 9) C 3 dX11_days_9 rfl rfl ?_
    refine at_if_lt (pc := 10) (tgt := 18) C h3 dX11_days_10 rfl (fun c3 => ?_) (fun c3 => ?_)
    · have hF := (if_pos c3).symm.trans hF
      refine at_iconst (pc := 18) C dX11_days_18 ?_
      obtain rfl := Option.some.inj hF
      exact at_iret (pc := 19) C hr hlk (show inR (-1) from ⟨by decide, by decide⟩) ok dX11_days_19
    · have hF := (if_neg c3).symm.trans hF
      refine at_iload_n (pc := 13) C 3 dX11_days_13 rfl rfl ?_
      refine at_iconst (pc := 14) C dX11_days_14 ?_
      refine at_icmp_le (pc := 15) (tgt := 20) C h3 (show inR 2 from ⟨by decide, by decide⟩) dX11_days_15 rfl (fun c4 => ?_) (fun c4 => ?_)
      · have hF := (if_pos c4).symm.trans hF
        refine at_aload_n (pc := 20) C 0 dX11_days_20 rfl rfl ?_
        obtain ⟨q5, eq5, hF⟩ := bind_some' hF
        refine at_callVv (pc := 21) (ci := 11) C (c_X11_refreshNet l g N  σ q5  ok eq5) kv_X11_refreshNet w791 kd0 rfl rfl rfl rfl (Nat.le_of_ble_eq_true rfl) ⟨rfl, rfl, (Nat.le_of_ble_eq_true rfl), (Nat.le_of_ble_eq_true rfl)⟩ dX11_days_21 (fun okq5 => ?_)
        refine at_iload_n (pc := 24) C 3 dX11_days_24 rfl rfl ?_
        refine at_if_ne (pc := 25) (tgt := 38) C h3 dX11_days_25 rfl (fun c6 => ?_) (fun c6 => ?_)
        · have hF := (if_neg c6).symm.trans hF
          refine at_iload_n (pc := 38) C 3 dX11_days_38 rfl rfl ?_
          refine at_iconst (pc := 39) C dX11_days_39 ?_
          refine at_icmp_ne (pc := 40) (tgt := 55) C h3 (isB.r (Or.inr rfl)) dX11_days_40 rfl (fun c7 => ?_) (fun c7 => ?_)
          · have hF := (if_neg c7).symm.trans hF
            refine at_aload_n (pc := 55) C 0 dX11_days_55 rfl rfl ?_
            refine at_getr (pc := 56) (k' := 52) C 52 fw_11_57 kd0 rfl (Nat.le_of_ble_eq_true rfl) rfl rfl dX11_days_56 ?_
            refine at_iload_n (pc := 59) C 1 dX11_days_59 rfl rfl ?_
            refine at_iload_n (pc := 60) C 2 dX11_days_60 rfl rfl ?_
            refine at_iconst (pc := 61) C dX11_days_61 ?_
            refine at_sipush (pc := 62) C dX11_days_62 (by decide) ?_
            obtain ⟨q8, eq8, hF⟩ := bind_some' hF
            refine at_callV (pc := 65) (ci := 4) C (c_X4_daysTogether l g N 52 v1 v2 0 999 q5 q8 kd52 h1 h2 (isB.r (Or.inl rfl)) (show inR 999 from ⟨by decide, by decide⟩) okq5 eq8) kv_X4_daysTogether w851 kd52 rfl rfl rfl rfl (Nat.le_of_ble_eq_true rfl) ⟨rfl, rfl, (Nat.le_of_ble_eq_true rfl), (Nat.le_of_ble_eq_true rfl)⟩ dX11_days_65 (fun tq8 okq8 => ?_)
            obtain rfl := Option.some.inj hF
            exact at_iret (pc := 68) C hr hlk tq8 okq5 dX11_days_68
          · have hF := (if_pos c7).symm.trans hF
            refine at_aload_n (pc := 43) C 0 dX11_days_43 rfl rfl ?_
            refine at_getr (pc := 44) (k' := 52) C 52 fw_11_57 kd0 rfl (Nat.le_of_ble_eq_true rfl) rfl rfl dX11_days_44 ?_
            refine at_iload_n (pc := 47) C 1 dX11_days_47 rfl rfl ?_
            refine at_iload_n (pc := 48) C 2 dX11_days_48 rfl rfl ?_
            obtain ⟨q9, eq9, hF⟩ := bind_some' hF
            refine at_callV (pc := 49) (ci := 4) C (c_X4_lastDay l g N 52 v1 v2 q5 q9 kd52 h1 h2 okq5 eq9) kv_X4_lastDay w847 kd52 rfl rfl rfl rfl (Nat.le_of_ble_eq_true rfl) ⟨rfl, rfl, (Nat.le_of_ble_eq_true rfl), (Nat.le_of_ble_eq_true rfl)⟩ dX11_days_49 (fun tq9 okq9 => ?_)
            refine at_goto (pc := 52) (tgt := 68) C dX11_days_52 rfl ?_
            obtain rfl := Option.some.inj hF
            exact at_iret (pc := 68) C hr hlk tq9 okq5 dX11_days_68
        · have hF := (if_pos c6).symm.trans hF
          refine at_aload_n (pc := 28) C 0 dX11_days_28 rfl rfl ?_
          refine at_getr (pc := 29) (k' := 52) C 52 fw_11_57 kd0 rfl (Nat.le_of_ble_eq_true rfl) rfl rfl dX11_days_29 ?_
          refine at_iload_n (pc := 32) C 1 dX11_days_32 rfl rfl ?_
          refine at_iload_n (pc := 33) C 2 dX11_days_33 rfl rfl ?_
          obtain ⟨q10, eq10, hF⟩ := bind_some' hF
          refine at_callV (pc := 34) (ci := 4) C (c_X4_firstDay l g N 52 v1 v2 q5 q10 kd52 h1 h2 okq5 eq10) kv_X4_firstDay w843 kd52 rfl rfl rfl rfl (Nat.le_of_ble_eq_true rfl) ⟨rfl, rfl, (Nat.le_of_ble_eq_true rfl), (Nat.le_of_ble_eq_true rfl)⟩ dX11_days_34 (fun tq10 okq10 => ?_)
          obtain rfl := Option.some.inj hF
          exact at_iret (pc := 37) C hr hlk tq10 okq5 dX11_days_37
      · have hF := (if_neg c4).symm.trans hF
        refine at_iconst (pc := 18) C dX11_days_18 ?_
        obtain rfl := Option.some.inj hF
        exact at_iret (pc := 19) C hr hlk (show inR (-1) from ⟨by decide, by decide⟩) ok dX11_days_19
abbrev rm_X11_steps : Room := { frames := 2, cells := 0, slots := 0, locals := 48 }
def F_X11_steps (N : Nat) (v1 : Int) (v2 : Int) (v3 : Int) (σ : Sto) : Option (Int × Sto) :=
  (F_X11_areMembers N v1 v2 σ).bind (fun q1 => if q1 = 0 then (some ((-1), σ)) else ((F_X11_isDay N v3 σ).bind (fun q3 => if q3 = 0 then (some ((-1), σ)) else (asB (σ.1 0 1) (fun b5 => (F_X10_load N b5 v3 σ).bind (fun q6 => (F_X10_stepsBetween N v1 v2 q6).bind (fun q7 => some (q7.1, q7.2))))))))
set_option maxHeartbeats 4000000 in
set_option maxRecDepth 100000 in
theorem c_X11_steps (l : Launch) (g : Geo) (N : Nat) (v1 : Int) (v2 : Int) (v3 : Int) (σ : Sto) (res : Int × Sto) (h1 : inR v1) (h2 : inR v2) (h3 : inR v3) (ok : OK σ) (hF : F_X11_steps N v1 v2 v3 σ = some res) : MtI l g yX11_steps cX11_steps 4 (some .int) rm_X11_steps [vr g 0, vi v1, vi v2, vi v3] σ res.1 res.2 inR := by
  intro sz
  refine Met.ofAt (own := RX11) (QQ := fun z => QI g z res.1 res.2 inR) (by decide +kernel) (Nat.le_of_ble_eq_true rfl) rfl ?_
  intro p e s m args below meth c C hr hlk
  show At p l e rm_X11_steps s m args below meth c 0 0 g 4 (MQ below (QI g s.heap.size res.1 res.2 inR) args s 0 0 (AA g s.heap.size)) 0 [(0, vr g 0), (1, vi v1), (2, vi v2), (3, vi v3)] [] σ
  unfold F_X11_steps at hF
  refine at_aload_n (pc := 0) C 0 dX11_steps_0 rfl rfl ?_
  refine at_iload_n (pc := 1) C 1 dX11_steps_1 rfl rfl ?_
  refine at_iload_n (pc := 2) C 2 dX11_steps_2 rfl rfl ?_
  obtain ⟨q1, eq1, hF⟩ := bind_some' hF
  refine at_callV (pc := 3) (ci := 11) C (c_X11_areMembers l g N v1 v2 σ q1 h1 h2 ok eq1) kv_X11_areMembers w720 kd0 rfl rfl rfl rfl (Nat.le_of_ble_eq_true rfl) ⟨rfl, rfl, (Nat.le_of_ble_eq_true rfl), (Nat.le_of_ble_eq_true rfl)⟩ dX11_steps_3 (fun tq1 okq1 => ?_)
  refine at_if_eq (pc := 6) (tgt := 16) C (isB.r tq1) dX11_steps_6 rfl (fun c2 => ?_) (fun c2 => ?_)
  · have hF := (if_pos c2).symm.trans hF
    refine at_iconst (pc := 16) C dX11_steps_16 ?_
    obtain rfl := Option.some.inj hF
    exact at_iret (pc := 17) C hr hlk (show inR (-1) from ⟨by decide, by decide⟩) ok dX11_steps_17
  · have hF := (if_neg c2).symm.trans hF
    refine at_iload_n (pc := 9) C 3 dX11_steps_9 rfl rfl ?_
    obtain ⟨q3, eq3, hF⟩ := bind_some' hF
    refine at_callS (pc := 10) C (c_X11_isDay l g N v3 σ q3 h3 ok eq3) ks_X11_isDay w728 rfl rfl (Nat.le_of_ble_eq_true rfl) ⟨rfl, rfl, (Nat.le_of_ble_eq_true rfl), (Nat.le_of_ble_eq_true rfl)⟩ dX11_steps_10 (fun tq3 okq3 => ?_)
    refine at_if_ne (pc := 13) (tgt := 18) C (isB.r tq3) dX11_steps_13 rfl (fun c4 => ?_) (fun c4 => ?_)
    · have hF := (if_neg c4).symm.trans hF
      refine at_aload_n (pc := 18) C 0 dX11_steps_18 rfl rfl ?_
      refine at_getr (pc := 19) (k' := 46) C 46 fw_11_50 kd0 rfl (Nat.le_of_ble_eq_true rfl) rfl rfl dX11_steps_19 ?_
      refine at_aload_n (pc := 22) C 0 dX11_steps_22 rfl rfl ?_
      obtain ⟨b5, eb5, kb5, hF⟩ := asB_some hF
      refine at_getd (pc := 23) (jz := 1) (k2 := b5) C fw_11_19 kd0 rfl (Nat.le_of_ble_eq_true rfl) rfl rfl eb5 dX11_steps_23 ?_
      refine at_iload_n (pc := 26) C 3 dX11_steps_26 rfl rfl ?_
      obtain ⟨q6, eq6, hF⟩ := bind_some' hF
      refine at_callVv (pc := 27) (ci := 10) C (c_X10_load l g N b5 v3 σ q6 kb5 h3 ok eq6) kv_X10_load w731 kd46 rfl rfl rfl rfl (Nat.le_of_ble_eq_true rfl) ⟨rfl, rfl, (Nat.le_of_ble_eq_true rfl), (Nat.le_of_ble_eq_true rfl)⟩ dX11_steps_27 (fun okq6 => ?_)
      refine at_aload_n (pc := 30) C 0 dX11_steps_30 rfl rfl ?_
      refine at_getr (pc := 31) (k' := 46) C 46 fw_11_50 kd0 rfl (Nat.le_of_ble_eq_true rfl) rfl rfl dX11_steps_31 ?_
      refine at_iload_n (pc := 34) C 1 dX11_steps_34 rfl rfl ?_
      refine at_iload_n (pc := 35) C 2 dX11_steps_35 rfl rfl ?_
      obtain ⟨q7, eq7, hF⟩ := bind_some' hF
      refine at_callV (pc := 36) (ci := 10) C (c_X10_stepsBetween l g N v1 v2 q6 q7 h1 h2 okq6 eq7) kv_X10_stepsBetween w856 kd46 rfl rfl rfl rfl (Nat.le_of_ble_eq_true rfl) ⟨rfl, rfl, (Nat.le_of_ble_eq_true rfl), (Nat.le_of_ble_eq_true rfl)⟩ dX11_steps_36 (fun tq7 okq7 => ?_)
      obtain rfl := Option.some.inj hF
      exact at_iret (pc := 39) C hr hlk tq7 okq7 dX11_steps_39
    · have hF := (if_pos c4).symm.trans hF
      refine at_iconst (pc := 16) C dX11_steps_16 ?_
      obtain rfl := Option.some.inj hF
      exact at_iret (pc := 17) C hr hlk (show inR (-1) from ⟨by decide, by decide⟩) ok dX11_steps_17
