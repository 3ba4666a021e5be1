abbrev rm_X12_wordLine : Room := { frames := 4, cells := 0, slots := 0, locals := 91 }
def F_X12_wordLine_J137 (N : Nat)  (t1 : Int) (σ : Sto) : Option (Int × Sto) :=
  inb t1 8 (some (1, (upI σ 100 t1 (σ.1 94 22))))
def F_X12_wordLine_J103 (N : Nat)  (v1 : Int) (σ : Sto) : Option (Int × Sto) :=
  if v1 = 3 then (F_X12_wordLine_J137 N  4 σ) else (if v1 = 4 then (F_X12_wordLine_J137 N  5 σ) else (if v1 = 5 then (F_X12_wordLine_J137 N  7 σ) else (F_X12_wordLine_J137 N  6 σ)))
def F_X12_wordLine (N : Nat)  (σ : Sto) : Option (Int × Sto) :=
  if (jand (jshr (σ.1 94 21) (σ.1 94 9)) 1) = 1 then ((F_X12_wrong N 3 σ).bind (fun q18 => some (q18.1, q18.2))) else ((F_X12_token N (upI σ 94 21 (jor (σ.1 94 21) (jshl 1 (σ.1 94 9))))).bind (fun q6 => if (σ.1 94 9) = 3 then ((F_X12_number N 1 100 q6).bind (fun q16 => if q16.1 = 0 then (some (0, q16.2)) else (F_X12_wordLine_J103 N  (σ.1 94 9) q16.2))) else (if (σ.1 94 9) = 4 then ((F_X12_number N 0 2 q6).bind (fun q14 => if q14.1 = 0 then (some (0, q14.2)) else (F_X12_wordLine_J103 N  (σ.1 94 9) q14.2))) else (if (σ.1 94 9) = 5 then ((F_X12_number N 0 1 q6).bind (fun q12 => if q12.1 = 0 then (some (0, q12.2)) else (F_X12_wordLine_J103 N  (σ.1 94 9) q12.2))) else ((F_X12_number N 0 99999 q6).bind (fun q10 => if q10.1 = 0 then (some (0, q10.2)) else (F_X12_wordLine_J103 N  (σ.1 94 9) q10.2)))))))
set_option maxHeartbeats 4000000 in
set_option maxRecDepth 100000 in
theorem c_X12_wordLine (l : Launch) (g : Geo) (N : Nat)  (σ : Sto) (res : Int × Sto)  (ok : OK σ) (hF : F_X12_wordLine N  σ = some res) : MtI l g yX12_wordLine cX12_wordLine 2 (some .boolean) rm_X12_wordLine [vr g 94] σ res.1 res.2 isB := by
  intro sz
  refine Met.ofAt (own := RX12) (QQ := fun z => QI g z res.1 res.2 isB) (by decide +kernel) (Nat.le_of_ble_eq_true rfl) rfl ?_
  intro p e s m args below meth c C hr hlk
  show At p l e rm_X12_wordLine s m args below meth c 0 0 g 2 (MQ below (QI g s.heap.size res.1 res.2 isB) args s 0 0 (AA g s.heap.size)) 0 [(0, vr g 94)] [] σ
  unfold F_X12_wordLine at hF
  refine at_aload_n (pc := 0) C 0 dX12_wordLine_0 rfl rfl ?_
  refine at_geti (pc := 1) (jz := 9) C fw_12_110 kd94 rfl (Nat.le_of_ble_eq_true rfl) rfl rfl dX12_wordLine_1 ?_
  refine at_istore_n (pc := 4) (lv' := [(1, vi (σ.1 94 9)), (0, vr g 94)]) C dX12_wordLine_4 rfl (Nat.le_of_ble_eq_true rfl) rfl ?_
  refine at_aload_n (pc := 5) C 1 dX12_wordLine_5 rfl rfl ?_
  refine at_geti (pc := 6) (jz := 21) C fw_12_129 kd94 rfl (Nat.le_of_ble_eq_true rfl) rfl rfl dX12_wordLine_6 ?_
  refine at_iload_n (pc := 9) C 0 dX12_wordLine_9 rfl rfl ?_
  refine at_ishr (pc := 10) C dX12_wordLine_10 ?_
  refine at_iconst (pc := 11) C dX12_wordLine_11 ?_
  refine at_iand (pc := 12) C dX12_wordLine_12 ?_
  refine at_iconst (pc := 13) C dX12_wordLine_13 ?_
  refine at_icmp_ne (pc := 14) (tgt := 23) C (jand_R (jshr (σ.1 94 21) (σ.1 94 9)) 1) (isB.r (Or.inr rfl)) dX12_wordLine_14 rfl (fun c1 => ?_) (fun c1 => ?_)
  · have hF := (if_neg c1).symm.trans hF
    have J103 : ∀ (v1 : Int) (σ : Sto), inR v1 → OK σ → F_X12_wordLine_J103 N  v1 σ = some res → At p l e rm_X12_wordLine s m args below meth c 0 0 g 2 (MQ below (QI g s.heap.size res.1 res.2 isB) args s 0 0 (AA g s.heap.size)) 103 [(0, vr g 94), (1, vi v1)] [] σ := by
      intro v1 σ h1 ok hF
      unfold F_X12_wordLine_J103 at hF
      have J137 : ∀ (t1 : Int) (σ : Sto), inR t1 → OK σ → F_X12_wordLine_J137 N  t1 σ = some res → At p l e rm_X12_wordLine s m args below meth c 0 0 g 2 (MQ below (QI g s.heap.size res.1 res.2 isB) args s 0 0 (AA g s.heap.size)) 137 [(0, vr g 94)] [vi t1, vr g 100] σ := by
        intro t1 σ ht1 ok hF
        unfold F_X12_wordLine_J137 at hF
        refine at_aload_n (pc := 137) C 0 dX12_wordLine_137 rfl rfl ?_
        refine at_geti (pc := 138) (jz := 22) C fw_12_169 kd94 rfl (Nat.le_of_ble_eq_true rfl) rfl rfl dX12_wordLine_138 ?_
        obtain ⟨b2, hF⟩ := inb_some hF
        refine at_iastore (pc := 141) C kd100 b2 dX12_wordLine_141 ?_
        refine at_iconst (pc := 142) C dX12_wordLine_142 ?_
        obtain rfl := Option.some.inj hF
        exact at_zret (pc := 143) C hr hlk (Or.inr rfl) (OK_up (k := 100) (j := t1) ok (ok 94 22)) dX12_wordLine_143
      refine at_aload_n (pc := 103) C 0 dX12_wordLine_103 rfl rfl ?_
      refine at_getr (pc := 104) (k' := 100) C 6 fw_12_29 kd94 rfl (Nat.le_of_ble_eq_true rfl) rfl rfl dX12_wordLine_104 ?_
      refine at_iload_n (pc := 107) C 1 dX12_wordLine_107 rfl rfl ?_
      refine at_iconst (pc := 108) C dX12_wordLine_108 ?_
      refine at_icmp_ne (pc := 109) (tgt := 116) C h1 (show inR 3 from ⟨by decide, by decide⟩) dX12_wordLine_109 rfl (fun c3 => ?_) (fun c3 => ?_)
      · have hF := (if_neg c3).symm.trans hF
        refine at_iload_n (pc := 116) C 1 dX12_wordLine_116 rfl rfl ?_
        refine at_iconst (pc := 117) C dX12_wordLine_117 ?_
        refine at_icmp_ne (pc := 118) (tgt := 125) C h1 (show inR 4 from ⟨by decide, by decide⟩) dX12_wordLine_118 rfl (fun c4 => ?_) (fun c4 => ?_)
        · have hF := (if_neg c4).symm.trans hF
          refine at_iload_n (pc := 125) C 1 dX12_wordLine_125 rfl rfl ?_
          refine at_iconst (pc := 126) C dX12_wordLine_126 ?_
          refine at_icmp_ne (pc := 127) (tgt := 135) C h1 (show inR 5 from ⟨by decide, by decide⟩) dX12_wordLine_127 rfl (fun c5 => ?_) (fun c5 => ?_)
          · have hF := (if_neg c5).symm.trans hF
            refine at_bipush (pc := 135) C dX12_wordLine_135 (by decide) ?_
            refine at_sub (lv' := [(0, vr g 94)]) [0] rfl ?_
            exact J137 6 σ (show inR 6 from ⟨by decide, by decide⟩) ok hF
          · have hF := (if_pos c5).symm.trans hF
            refine at_bipush (pc := 130) C dX12_wordLine_130 (by decide) ?_
            refine at_goto (pc := 132) (tgt := 137) C dX12_wordLine_132 rfl ?_
            refine at_sub (lv' := [(0, vr g 94)]) [0] rfl ?_
            exact J137 7 σ (show inR 7 from ⟨by decide, by decide⟩) ok hF
        · have hF := (if_pos c4).symm.trans hF
          refine at_iconst (pc := 121) C dX12_wordLine_121 ?_
          refine at_goto (pc := 122) (tgt := 137) C dX12_wordLine_122 rfl ?_
          refine at_sub (lv' := [(0, vr g 94)]) [0] rfl ?_
          exact J137 5 σ (show inR 5 from ⟨by decide, by decide⟩) ok hF
      · have hF := (if_pos c3).symm.trans hF
        refine at_iconst (pc := 112) C dX12_wordLine_112 ?_
        refine at_goto (pc := 113) (tgt := 137) C dX12_wordLine_113 rfl ?_
        refine at_sub (lv' := [(0, vr g 94)]) [0] rfl ?_
        exact J137 4 σ (show inR 4 from ⟨by decide, by decide⟩) ok hF
    refine at_aload_n (pc := 23) C 1 dX12_wordLine_23 rfl rfl ?_
    refine at_dup (pc := 24) C dX12_wordLine_24 rfl ?_
    refine at_geti (pc := 25) (jz := 21) C fw_12_129 kd94 rfl (Nat.le_of_ble_eq_true rfl) rfl rfl dX12_wordLine_25 ?_
    refine at_iconst (pc := 28) C dX12_wordLine_28 ?_
    refine at_iload_n (pc := 29) C 0 dX12_wordLine_29 rfl rfl ?_
    refine at_ishl (pc := 30) C dX12_wordLine_30 ?_
    refine at_ior (pc := 31) C dX12_wordLine_31 ?_
    refine at_puti (pc := 32) (jz := 21) C fu_12_129 kd94 rfl (Nat.le_of_ble_eq_true rfl) rfl rfl dX12_wordLine_32 ?_
    refine at_aload_n (pc := 35) C 1 dX12_wordLine_35 rfl rfl ?_
    obtain ⟨q6, eq6, hF⟩ := bind_some' hF
    refine at_callVv (pc := 36) (ci := 12) C (c_X12_token l g N  (upI σ 94 21 (jor (σ.1 94 21) (jshl 1 (σ.1 94 9)))) q6  (OK_up (k := 94) (j := 21) ok (jor_R (σ.1 94 21) (jshl 1 (σ.1 94 9)))) eq6) kv_X12_token w1480 kd94 rfl rfl rfl rfl (Nat.le_of_ble_eq_true rfl) ⟨rfl, rfl, (Nat.le_of_ble_eq_true rfl), (Nat.le_of_ble_eq_true rfl)⟩ dX12_wordLine_36 (fun okq6 => ?_)
    refine at_iload_n (pc := 39) C 0 dX12_wordLine_39 rfl rfl ?_
    refine at_iconst (pc := 40) C dX12_wordLine_40 ?_
    refine at_icmp_ne (pc := 41) (tgt := 57) C (ok 94 9) (show inR 3 from ⟨by decide, by decide⟩) dX12_wordLine_41 rfl (fun c7 => ?_) (fun c7 => ?_)
    · have hF := (if_neg c7).symm.trans hF
      refine at_iload_n (pc := 57) C 0 dX12_wordLine_57 rfl rfl ?_
      refine at_iconst (pc := 58) C dX12_wordLine_58 ?_
      refine at_icmp_ne (pc := 59) (tgt := 74) C (ok 94 9) (show inR 4 from ⟨by decide, by decide⟩) dX12_wordLine_59 rfl (fun c8 => ?_) (fun c8 => ?_)
      · have hF := (if_neg c8).symm.trans hF
        refine at_iload_n (pc := 74) C 0 dX12_wordLine_74 rfl rfl ?_
        refine at_iconst (pc := 75) C dX12_wordLine_75 ?_
        refine at_icmp_ne (pc := 76) (tgt := 91) C (ok 94 9) (show inR 5 from ⟨by decide, by decide⟩) dX12_wordLine_76 rfl (fun c9 => ?_) (fun c9 => ?_)
        · have hF := (if_neg c9).symm.trans hF
          refine at_aload_n (pc := 91) C 1 dX12_wordLine_91 rfl rfl ?_
          refine at_iconst (pc := 92) C dX12_wordLine_92 ?_
          refine at_ldc (pc := 93) (n := 99999) C dX12_wordLine_93 w1500 ?_
          obtain ⟨q10, eq10, hF⟩ := bind_some' hF
          refine at_callV (pc := 95) (ci := 12) C (c_X12_number l g N 0 99999 q6 q10 (isB.r (Or.inl rfl)) (show inR 99999 from ⟨by decide, by decide⟩) okq6 eq10) kv_X12_number w1517 kd94 rfl rfl rfl rfl (Nat.le_of_ble_eq_true rfl) ⟨rfl, rfl, (Nat.le_of_ble_eq_true rfl), (Nat.le_of_ble_eq_true rfl)⟩ dX12_wordLine_95 (fun tq10 okq10 => ?_)
          refine at_if_ne (pc := 98) (tgt := 103) C (isB.r tq10) dX12_wordLine_98 rfl (fun c11 => ?_) (fun c11 => ?_)
          · have hF := (if_neg c11).symm.trans hF
            refine at_sub (lv' := [(0, vr g 94), (1, vi (σ.1 94 9))]) [1, 0] rfl ?_
            exact J103 (σ.1 94 9) q10.2 (ok 94 9) okq10 hF
          · have hF := (if_pos c11).symm.trans hF
            refine at_iconst (pc := 101) C dX12_wordLine_101 ?_
            obtain rfl := Option.some.inj hF
            exact at_zret (pc := 102) C hr hlk (Or.inl rfl) okq10 dX12_wordLine_102
        · have hF := (if_pos c9).symm.trans hF
          refine at_aload_n (pc := 79) C 1 dX12_wordLine_79 rfl rfl ?_
          refine at_iconst (pc := 80) C dX12_wordLine_80 ?_
          refine at_iconst (pc := 81) C dX12_wordLine_81 ?_
          obtain ⟨q12, eq12, hF⟩ := bind_some' hF
          refine at_callV (pc := 82) (ci := 12) C (c_X12_number l g N 0 1 q6 q12 (isB.r (Or.inl rfl)) (isB.r (Or.inr rfl)) okq6 eq12) kv_X12_number w1517 kd94 rfl rfl rfl rfl (Nat.le_of_ble_eq_true rfl) ⟨rfl, rfl, (Nat.le_of_ble_eq_true rfl), (Nat.le_of_ble_eq_true rfl)⟩ dX12_wordLine_82 (fun tq12 okq12 => ?_)
          refine at_if_eq (pc := 85) (tgt := 101) C (isB.r tq12) dX12_wordLine_85 rfl (fun c13 => ?_) (fun c13 => ?_)
          · have hF := (if_pos c13).symm.trans hF
            refine at_iconst (pc := 101) C dX12_wordLine_101 ?_
            obtain rfl := Option.some.inj hF
            exact at_zret (pc := 102) C hr hlk (Or.inl rfl) okq12 dX12_wordLine_102
          · have hF := (if_neg c13).symm.trans hF
            refine at_goto (pc := 88) (tgt := 103) C dX12_wordLine_88 rfl ?_
            refine at_sub (lv' := [(0, vr g 94), (1, vi (σ.1 94 9))]) [1, 0] rfl ?_
            exact J103 (σ.1 94 9) q12.2 (ok 94 9) okq12 hF
      · have hF := (if_pos c8).symm.trans hF
        refine at_aload_n (pc := 62) C 1 dX12_wordLine_62 rfl rfl ?_
        refine at_iconst (pc := 63) C dX12_wordLine_63 ?_
        refine at_iconst (pc := 64) C dX12_wordLine_64 ?_
        obtain ⟨q14, eq14, hF⟩ := bind_some' hF
        refine at_callV (pc := 65) (ci := 12) C (c_X12_number l g N 0 2 q6 q14 (isB.r (Or.inl rfl)) (show inR 2 from ⟨by decide, by decide⟩) okq6 eq14) kv_X12_number w1517 kd94 rfl rfl rfl rfl (Nat.le_of_ble_eq_true rfl) ⟨rfl, rfl, (Nat.le_of_ble_eq_true rfl), (Nat.le_of_ble_eq_true rfl)⟩ dX12_wordLine_65 (fun tq14 okq14 => ?_)
        refine at_if_eq (pc := 68) (tgt := 101) C (isB.r tq14) dX12_wordLine_68 rfl (fun c15 => ?_) (fun c15 => ?_)
        · have hF := (if_pos c15).symm.trans hF
          refine at_iconst (pc := 101) C dX12_wordLine_101 ?_
          obtain rfl := Option.some.inj hF
          exact at_zret (pc := 102) C hr hlk (Or.inl rfl) okq14 dX12_wordLine_102
        · have hF := (if_neg c15).symm.trans hF
          refine at_goto (pc := 71) (tgt := 103) C dX12_wordLine_71 rfl ?_
          refine at_sub (lv' := [(0, vr g 94), (1, vi (σ.1 94 9))]) [1, 0] rfl ?_
          exact J103 (σ.1 94 9) q14.2 (ok 94 9) okq14 hF
    · have hF := (if_pos c7).symm.trans hF
      refine at_aload_n (pc := 44) C 1 dX12_wordLine_44 rfl rfl ?_
      refine at_iconst (pc := 45) C dX12_wordLine_45 ?_
      refine at_bipush (pc := 46) C dX12_wordLine_46 (by decide) ?_
      obtain ⟨q16, eq16, hF⟩ := bind_some' hF
      refine at_callV (pc := 48) (ci := 12) C (c_X12_number l g N 1 100 q6 q16 (isB.r (Or.inr rfl)) (show inR 100 from ⟨by decide, by decide⟩) okq6 eq16) kv_X12_number w1517 kd94 rfl rfl rfl rfl (Nat.le_of_ble_eq_true rfl) ⟨rfl, rfl, (Nat.le_of_ble_eq_true rfl), (Nat.le_of_ble_eq_true rfl)⟩ dX12_wordLine_48 (fun tq16 okq16 => ?_)
      refine at_if_eq (pc := 51) (tgt := 101) C (isB.r tq16) dX12_wordLine_51 rfl (fun c17 => ?_) (fun c17 => ?_)
      · have hF := (if_pos c17).symm.trans hF
        refine at_iconst (pc := 101) C dX12_wordLine_101 ?_
        obtain rfl := Option.some.inj hF
        exact at_zret (pc := 102) C hr hlk (Or.inl rfl) okq16 dX12_wordLine_102
      · have hF := (if_neg c17).symm.trans hF
        refine at_goto (pc := 54) (tgt := 103) C dX12_wordLine_54 rfl ?_
        refine at_sub (lv' := [(0, vr g 94), (1, vi (σ.1 94 9))]) [1, 0] rfl ?_
        exact J103 (σ.1 94 9) q16.2 (ok 94 9) okq16 hF
  · have hF := (if_pos c1).symm.trans hF
    refine at_aload_n (pc := 17) C 1 dX12_wordLine_17 rfl rfl ?_
    refine at_iconst (pc := 18) C dX12_wordLine_18 ?_
    obtain ⟨q18, eq18, hF⟩ := bind_some' hF
    refine at_callV (pc := 19) (ci := 12) C (c_X12_wrong l g N 3 σ q18 (show inR 3 from ⟨by decide, by decide⟩) ok eq18) kv_X12_wrong w1505 kd94 rfl rfl rfl rfl (Nat.le_of_ble_eq_true rfl) ⟨rfl, rfl, (Nat.le_of_ble_eq_true rfl), (Nat.le_of_ble_eq_true rfl)⟩ dX12_wordLine_19 (fun tq18 okq18 => ?_)
    obtain rfl := Option.some.inj hF
    exact at_zret (pc := 22) C hr hlk tq18 okq18 dX12_wordLine_22
abbrev rm_X12_lineRead : Room := { frames := 5, cells := 0, slots := 0, locals := 113 }
def F_X12_lineRead_J62 (N : Nat)  (t0 : Int) (σ : Sto) : Option (Int × Sto) :=
  if t0 = 0 then (some (0, σ)) else (if (σ.1 94 8) = 4 then ((F_X12_token N σ).bind (fun q4 => some (1, q4))) else ((F_X12_wrong N 1 σ).bind (fun q5 => some (q5.1, q5.2))))
def F_X12_lineRead (N : Nat)  (σ : Sto) : Option (Int × Sto) :=
  if (σ.1 94 8) = 1 then (if (σ.1 94 9) = 0 then ((F_X12_memberLine N σ).bind (fun q12 => F_X12_lineRead_J62 N  q12.1 q12.2)) else (if (σ.1 94 9) = 1 then ((F_X12_ownsLine N σ).bind (fun q11 => F_X12_lineRead_J62 N  q11.1 q11.2)) else (if (σ.1 94 9) = 2 then ((F_X12_periodLine N σ).bind (fun q10 => F_X12_lineRead_J62 N  q10.1 q10.2)) else ((F_X12_wordLine N σ).bind (fun q9 => F_X12_lineRead_J62 N  q9.1 q9.2))))) else ((F_X12_wrong N 1 σ).bind (fun q13 => some (q13.1, q13.2)))
set_option maxHeartbeats 4000000 in
set_option maxRecDepth 100000 in
theorem c_X12_lineRead (l : Launch) (g : Geo) (N : Nat)  (σ : Sto) (res : Int × Sto)  (ok : OK σ) (hF : F_X12_lineRead N  σ = some res) : MtI l g yX12_lineRead cX12_lineRead 2 (some .boolean) rm_X12_lineRead [vr g 94] σ res.1 res.2 isB := by
  intro sz
  refine Met.ofAt (own := RX12) (QQ := fun z => QI g z res.1 res.2 isB) (by decide +kernel) (Nat.le_of_ble_eq_true rfl) rfl ?_
  intro p e s m args below meth c C hr hlk
  show At p l e rm_X12_lineRead s m args below meth c 0 0 g 2 (MQ below (QI g s.heap.size res.1 res.2 isB) args s 0 0 (AA g s.heap.size)) 0 [(0, vr g 94)] [] σ
  unfold F_X12_lineRead at hF
  refine at_aload_n (pc := 0) C 0 dX12_lineRead_0 rfl rfl ?_
  refine at_geti (pc := 1) (jz := 8) C fw_12_99 kd94 rfl (Nat.le_of_ble_eq_true rfl) rfl rfl dX12_lineRead_1 ?_
  refine at_iconst (pc := 4) C dX12_lineRead_4 ?_
  refine at_icmp_eq (pc := 5) (tgt := 14) C (ok 94 8) (isB.r (Or.inr rfl)) dX12_lineRead_5 rfl (fun c1 => ?_) (fun c1 => ?_)
  · have hF := (if_pos c1).symm.trans hF
    have J62 : ∀ (t0 : Int) (σ : Sto), isB t0 → OK σ → F_X12_lineRead_J62 N  t0 σ = some res → At p l e rm_X12_lineRead s m args below meth c 0 0 g 2 (MQ below (QI g s.heap.size res.1 res.2 isB) args s 0 0 (AA g s.heap.size)) 62 [(0, vr g 94)] [vi t0] σ := by
      intro t0 σ ht0 ok hF
      unfold F_X12_lineRead_J62 at hF
      refine at_istore_n (pc := 62) (lv' := [(1, vi t0), (0, vr g 94)]) C dX12_lineRead_62 rfl (Nat.le_of_ble_eq_true rfl) rfl ?_
      refine at_iload_n (pc := 63) C 0 dX12_lineRead_63 rfl rfl ?_
      refine at_if_ne (pc := 64) (tgt := 69) C (isB.r ht0) dX12_lineRead_64 rfl (fun c2 => ?_) (fun c2 => ?_)
      · have hF := (if_neg c2).symm.trans hF
        refine at_aload_n (pc := 69) C 1 dX12_lineRead_69 rfl rfl ?_
        refine at_geti (pc := 70) (jz := 8) C fw_12_99 kd94 rfl (Nat.le_of_ble_eq_true rfl) rfl rfl dX12_lineRead_70 ?_
        refine at_iconst (pc := 73) C dX12_lineRead_73 ?_
        refine at_icmp_eq (pc := 74) (tgt := 83) C (ok 94 8) (show inR 4 from ⟨by decide, by decide⟩) dX12_lineRead_74 rfl (fun c3 => ?_) (fun c3 => ?_)
        · have hF := (if_pos c3).symm.trans hF
          refine at_aload_n (pc := 83) C 1 dX12_lineRead_83 rfl rfl ?_
          obtain ⟨q4, eq4, hF⟩ := bind_some' hF
          refine at_callVv (pc := 84) (ci := 12) C (c_X12_token l g N  σ q4  ok eq4) kv_X12_token w1480 kd94 rfl rfl rfl rfl (Nat.le_of_ble_eq_true rfl) ⟨rfl, rfl, (Nat.le_of_ble_eq_true rfl), (Nat.le_of_ble_eq_true rfl)⟩ dX12_lineRead_84 (fun okq4 => ?_)
          refine at_iconst (pc := 87) C dX12_lineRead_87 ?_
          obtain rfl := Option.some.inj hF
          exact at_zret (pc := 88) C hr hlk (Or.inr rfl) okq4 dX12_lineRead_88
        · have hF := (if_neg c3).symm.trans hF
          refine at_aload_n (pc := 77) C 1 dX12_lineRead_77 rfl rfl ?_
          refine at_iconst (pc := 78) C dX12_lineRead_78 ?_
          obtain ⟨q5, eq5, hF⟩ := bind_some' hF
          refine at_callV (pc := 79) (ci := 12) C (c_X12_wrong l g N 1 σ q5 (isB.r (Or.inr rfl)) ok eq5) kv_X12_wrong w1505 kd94 rfl rfl rfl rfl (Nat.le_of_ble_eq_true rfl) ⟨rfl, rfl, (Nat.le_of_ble_eq_true rfl), (Nat.le_of_ble_eq_true rfl)⟩ dX12_lineRead_79 (fun tq5 okq5 => ?_)
          obtain rfl := Option.some.inj hF
          exact at_zret (pc := 82) C hr hlk tq5 okq5 dX12_lineRead_82
      · have hF := (if_pos c2).symm.trans hF
        refine at_iconst (pc := 67) C dX12_lineRead_67 ?_
        obtain rfl := Option.some.inj hF
        exact at_zret (pc := 68) C hr hlk (Or.inl rfl) ok dX12_lineRead_68
    refine at_aload_n (pc := 14) C 0 dX12_lineRead_14 rfl rfl ?_
    refine at_geti (pc := 15) (jz := 9) C fw_12_110 kd94 rfl (Nat.le_of_ble_eq_true rfl) rfl rfl dX12_lineRead_15 ?_
    refine at_if_ne (pc := 18) (tgt := 28) C (ok 94 9) dX12_lineRead_18 rfl (fun c6 => ?_) (fun c6 => ?_)
    · have hF := (if_neg c6).symm.trans hF
      refine at_aload_n (pc := 28) C 0 dX12_lineRead_28 rfl rfl ?_
      refine at_geti (pc := 29) (jz := 9) C fw_12_110 kd94 rfl (Nat.le_of_ble_eq_true rfl) rfl rfl dX12_lineRead_29 ?_
      refine at_iconst (pc := 32) C dX12_lineRead_32 ?_
      refine at_icmp_ne (pc := 33) (tgt := 43) C (ok 94 9) (isB.r (Or.inr rfl)) dX12_lineRead_33 rfl (fun c7 => ?_) (fun c7 => ?_)
      · have hF := (if_neg c7).symm.trans hF
        refine at_aload_n (pc := 43) C 0 dX12_lineRead_43 rfl rfl ?_
        refine at_geti (pc := 44) (jz := 9) C fw_12_110 kd94 rfl (Nat.le_of_ble_eq_true rfl) rfl rfl dX12_lineRead_44 ?_
        refine at_iconst (pc := 47) C dX12_lineRead_47 ?_
        refine at_icmp_ne (pc := 48) (tgt := 58) C (ok 94 9) (show inR 2 from ⟨by decide, by decide⟩) dX12_lineRead_48 rfl (fun c8 => ?_) (fun c8 => ?_)
        · have hF := (if_neg c8).symm.trans hF
          refine at_aload_n (pc := 58) C 0 dX12_lineRead_58 rfl rfl ?_
          obtain ⟨q9, eq9, hF⟩ := bind_some' hF
          refine at_callV (pc := 59) (ci := 12) C (c_X12_wordLine l g N  σ q9  ok eq9) kv_X12_wordLine w1541 kd94 rfl rfl rfl rfl (Nat.le_of_ble_eq_true rfl) ⟨rfl, rfl, (Nat.le_of_ble_eq_true rfl), (Nat.le_of_ble_eq_true rfl)⟩ dX12_lineRead_59 (fun tq9 okq9 => ?_)
          exact J62 q9.1 q9.2 tq9 okq9 hF
        · have hF := (if_pos c8).symm.trans hF
          refine at_aload_n (pc := 51) C 0 dX12_lineRead_51 rfl rfl ?_
          obtain ⟨q10, eq10, hF⟩ := bind_some' hF
          refine at_callV (pc := 52) (ci := 12) C (c_X12_periodLine l g N  σ q10  ok eq10) kv_X12_periodLine w1536 kd94 rfl rfl rfl rfl (Nat.le_of_ble_eq_true rfl) ⟨rfl, rfl, (Nat.le_of_ble_eq_true rfl), (Nat.le_of_ble_eq_true rfl)⟩ dX12_lineRead_52 (fun tq10 okq10 => ?_)
          refine at_goto (pc := 55) (tgt := 62) C dX12_lineRead_55 rfl ?_
          exact J62 q10.1 q10.2 tq10 okq10 hF
      · have hF := (if_pos c7).symm.trans hF
        refine at_aload_n (pc := 36) C 0 dX12_lineRead_36 rfl rfl ?_
        obtain ⟨q11, eq11, hF⟩ := bind_some' hF
        refine at_callV (pc := 37) (ci := 12) C (c_X12_ownsLine l g N  σ q11  ok eq11) kv_X12_ownsLine w1528 kd94 rfl rfl rfl rfl (Nat.le_of_ble_eq_true rfl) ⟨rfl, rfl, (Nat.le_of_ble_eq_true rfl), (Nat.le_of_ble_eq_true rfl)⟩ dX12_lineRead_37 (fun tq11 okq11 => ?_)
        refine at_goto (pc := 40) (tgt := 62) C dX12_lineRead_40 rfl ?_
        exact J62 q11.1 q11.2 tq11 okq11 hF
    · have hF := (if_pos c6).symm.trans hF
      refine at_aload_n (pc := 21) C 0 dX12_lineRead_21 rfl rfl ?_
      obtain ⟨q12, eq12, hF⟩ := bind_some' hF
      refine at_callV (pc := 22) (ci := 12) C (c_X12_memberLine l g N  σ q12  ok eq12) kv_X12_memberLine w1509 kd94 rfl rfl rfl rfl (Nat.le_of_ble_eq_true rfl) ⟨rfl, rfl, (Nat.le_of_ble_eq_true rfl), (Nat.le_of_ble_eq_true rfl)⟩ dX12_lineRead_22 (fun tq12 okq12 => ?_)
      refine at_goto (pc := 25) (tgt := 62) C dX12_lineRead_25 rfl ?_
      exact J62 q12.1 q12.2 tq12 okq12 hF
  · have hF := (if_neg c1).symm.trans hF
    refine at_aload_n (pc := 8) C 0 dX12_lineRead_8 rfl rfl ?_
    refine at_iconst (pc := 9) C dX12_lineRead_9 ?_
    obtain ⟨q13, eq13, hF⟩ := bind_some' hF
    refine at_callV (pc := 10) (ci := 12) C (c_X12_wrong l g N 1 σ q13 (isB.r (Or.inr rfl)) ok eq13) kv_X12_wrong w1505 kd94 rfl rfl rfl rfl (Nat.le_of_ble_eq_true rfl) ⟨rfl, rfl, (Nat.le_of_ble_eq_true rfl), (Nat.le_of_ble_eq_true rfl)⟩ dX12_lineRead_10 (fun tq13 okq13 => ?_)
    obtain rfl := Option.some.inj hF
    exact at_zret (pc := 13) C hr hlk tq13 okq13 dX12_lineRead_13
abbrev rm_X12_text : Room := { frames := 6, cells := 0, slots := 0, locals := 134 }
def F_X12_text_J77 (N : Nat)  (v2 : Int) (σ : Sto) : Option (Int × Sto) :=
  (F_X12_keepText N σ).bind (fun q5 => some (v2, q5))
def F_X12_text_B55 (N : Nat) (nx55 : (Int × Sto) → Option (Int × Sto))  (v2 : Int) (σ : Sto) : Option (Int × Sto) :=
  if (σ.1 94 8) = 0 then (F_X12_text_J77 N  v2 σ) else ((F_X12_lineRead N σ).bind (fun q7 => if q7.1 = 0 then (some ((-1), q7.2)) else (nx55 ((ja v2 1), q7.2))))
def F_X12_text (N : Nat) (v1 : Int) (σ : Sto) : Option (Int × Sto) :=
  if v1 < 0 then (some ((-2), (upI σ 94 2 0))) else (if v1 ≤ ((upI σ 94 2 0).1 94 1) then ((F_X12_plain N (upI (upI (upI (upI (upI (upI σ 94 2 0) 94 6 v1) 94 1 0) 94 4 0) 94 5 (-1)) 94 7 0)).bind (fun q3 => (F_X12_token N q3).bind (fun q4 => loopK (fun q nx55 => F_X12_text_B55 N  nx55  q.1 q.2) N (0, q4)))) else (some ((-2), (upI σ 94 2 0))))
set_option maxHeartbeats 4000000 in
set_option maxRecDepth 100000 in
theorem c_X12_text (l : Launch) (g : Geo) (N : Nat) (v1 : Int) (σ : Sto) (res : Int × Sto) (h1 : inR v1) (ok : OK σ) (hF : F_X12_text N v1 σ = some res) : MtI l g yX12_text cX12_text 3 (some .int) rm_X12_text [vr g 94, vi v1] σ res.1 res.2 inR := by
  intro sz
  refine Met.ofAt (own := RX12) (QQ := fun z => QI g z res.1 res.2 inR) (by decide +kernel) (Nat.le_of_ble_eq_true rfl) rfl ?_
  intro p e s m args below meth c C hr hlk
  show At p l e rm_X12_text s m args below meth c 0 0 g 3 (MQ below (QI g s.heap.size res.1 res.2 inR) args s 0 0 (AA g s.heap.size)) 0 [(0, vr g 94), (1, vi v1)] [] σ
  unfold F_X12_text at hF
  refine at_aload_n (pc := 0) C 0 dX12_text_0 rfl rfl ?_
  refine at_iconst (pc := 1) C dX12_text_1 ?_
  refine at_puti (pc := 2) (jz := 2) C fu_12_81 kd94 rfl (Nat.le_of_ble_eq_true rfl) rfl rfl dX12_text_2 ?_
  refine at_iload_n (pc := 5) C 1 dX12_text_5 rfl rfl ?_
  refine at_if_lt (pc := 6) (tgt := 17) C h1 dX12_text_6 rfl (fun c1 => ?_) (fun c1 => ?_)
  · have hF := (if_pos c1).symm.trans hF
    refine at_bipush (pc := 17) C dX12_text_17 (by decide) ?_
    obtain rfl := Option.some.inj hF
    exact at_iret (pc := 19) C hr hlk (show inR (-2) from ⟨by decide, by decide⟩) (OK_up (k := 94) (j := 2) ok (isB.r (Or.inl rfl))) dX12_text_19
  · have hF := (if_neg c1).symm.trans hF
    refine at_iload_n (pc := 9) C 1 dX12_text_9 rfl rfl ?_
    refine at_aload_n (pc := 10) C 0 dX12_text_10 rfl rfl ?_
    refine at_geti (pc := 11) (jz := 1) C fw_12_84 kd94 rfl (Nat.le_of_ble_eq_true rfl) rfl rfl dX12_text_11 ?_
    refine at_icmp_le (pc := 14) (tgt := 20) C h1 ((OK_up (k := 94) (j := 2) ok (isB.r (Or.inl rfl))) 94 1) dX12_text_14 rfl (fun c2 => ?_) (fun c2 => ?_)
    · have hF := (if_pos c2).symm.trans hF
      refine at_aload_n (pc := 20) C 0 dX12_text_20 rfl rfl ?_
      refine at_iload_n (pc := 21) C 1 dX12_text_21 rfl rfl ?_
      refine at_puti (pc := 22) (jz := 6) C fu_12_93 kd94 rfl (Nat.le_of_ble_eq_true rfl) rfl rfl dX12_text_22 ?_
      refine at_aload_n (pc := 25) C 0 dX12_text_25 rfl rfl ?_
      refine at_iconst (pc := 26) C dX12_text_26 ?_
      refine at_puti (pc := 27) (jz := 1) C fu_12_84 kd94 rfl (Nat.le_of_ble_eq_true rfl) rfl rfl dX12_text_27 ?_
      refine at_aload_n (pc := 30) C 0 dX12_text_30 rfl rfl ?_
      refine at_iconst (pc := 31) C dX12_text_31 ?_
      refine at_puti (pc := 32) (jz := 4) C fu_12_87 kd94 rfl (Nat.le_of_ble_eq_true rfl) rfl rfl dX12_text_32 ?_
      refine at_aload_n (pc := 35) C 0 dX12_text_35 rfl rfl ?_
      refine at_iconst (pc := 36) C dX12_text_36 ?_
      refine at_puti (pc := 37) (jz := 5) C fu_12_16 kd94 rfl (Nat.le_of_ble_eq_true rfl) rfl rfl dX12_text_37 ?_
      refine at_aload_n (pc := 40) C 0 dX12_text_40 rfl rfl ?_
      refine at_iconst (pc := 41) C dX12_text_41 ?_
      refine at_puti (pc := 42) (jz := 7) C fu_12_96 kd94 rfl (Nat.le_of_ble_eq_true rfl) rfl rfl dX12_text_42 ?_
      refine at_aload_n (pc := 45) C 0 dX12_text_45 rfl rfl ?_
      obtain ⟨q3, eq3, hF⟩ := bind_some' hF
      refine at_callVv (pc := 46) (ci := 12) C (c_X12_plain l g N  (upI (upI (upI (upI (upI (upI σ 94 2 0) 94 6 v1) 94 1 0) 94 4 0) 94 5 (-1)) 94 7 0) q3  (OK_up (k := 94) (j := 7) (OK_up (k := 94) (j := 5) (OK_up (k := 94) (j := 4) (OK_up (k := 94) (j := 1) (OK_up (k := 94) (j := 6) (OK_up (k := 94) (j := 2) ok (isB.r (Or.inl rfl))) h1) (isB.r (Or.inl rfl))) (isB.r (Or.inl rfl))) (show inR (-1) from ⟨by decide, by decide⟩)) (isB.r (Or.inl rfl))) eq3) kv_X12_plain w1308 kd94 rfl rfl rfl rfl (Nat.le_of_ble_eq_true rfl) ⟨rfl, rfl, (Nat.le_of_ble_eq_true rfl), (Nat.le_of_ble_eq_true rfl)⟩ dX12_text_46 (fun okq3 => ?_)
      refine at_aload_n (pc := 49) C 0 dX12_text_49 rfl rfl ?_
      obtain ⟨q4, eq4, hF⟩ := bind_some' hF
      refine at_callVv (pc := 50) (ci := 12) C (c_X12_token l g N  q3 q4  okq3 eq4) kv_X12_token w1480 kd94 rfl rfl rfl rfl (Nat.le_of_ble_eq_true rfl) ⟨rfl, rfl, (Nat.le_of_ble_eq_true rfl), (Nat.le_of_ble_eq_true rfl)⟩ dX12_text_50 (fun okq4 => ?_)
      refine at_iconst (pc := 53) C dX12_text_53 ?_
      refine at_istore_n (pc := 54) (lv' := [(2, vi 0), (0, vr g 94), (1, vi v1)]) C dX12_text_54 rfl (Nat.le_of_ble_eq_true rfl) rfl ?_
      have L55 : ∀ (v2 : Int) (σ : Sto), inR v2 → OK σ → loopK (fun q nx55 => F_X12_text_B55 N  nx55  q.1 q.2) N (v2, σ) = some res → At p l e rm_X12_text s m args below meth c 0 0 g 3 (MQ below (QI g s.heap.size res.1 res.2 inR) args s 0 0 (AA g s.heap.size)) 55 [(0, vr g 94), (2, vi v2)] [] σ := by
        intro v2 σ h2 ok hF
        refine loopK_ind (res := res) (P := fun (q : Int × Sto) => inR q.1 → OK q.2 → At p l e rm_X12_text s m args below meth c 0 0 g 3 (MQ below (QI g s.heap.size res.1 res.2 inR) args s 0 0 (AA g s.heap.size)) 55 [(0, vr g 94), (2, vi q.1)] [] q.2) ?_ N _ hF h2 ok
        intro nx55 q ih55 hF
        obtain ⟨v2, σ⟩ := q
        intro h2 ok
        have hF : F_X12_text_B55 N  nx55  v2 σ = some res := hF
        unfold F_X12_text_B55 at hF
        have J77 : ∀ (v2 : Int) (σ : Sto), inR v2 → OK σ → F_X12_text_J77 N  v2 σ = some res → At p l e rm_X12_text s m args below meth c 0 0 g 3 (MQ below (QI g s.heap.size res.1 res.2 inR) args s 0 0 (AA g s.heap.size)) 77 [(0, vr g 94), (2, vi v2)] [] σ := by
          intro v2 σ h2 ok hF
          unfold F_X12_text_J77 at hF
          refine at_aload_n (pc := 77) C 0 dX12_text_77 rfl rfl ?_
          obtain ⟨q5, eq5, hF⟩ := bind_some' hF
          refine at_callVv (pc := 78) (ci := 12) C (c_X12_keepText l g N  σ q5  ok eq5) kv_X12_keepText w1312 kd94 rfl rfl rfl rfl (Nat.le_of_ble_eq_true rfl) ⟨rfl, rfl, (Nat.le_of_ble_eq_true rfl), (Nat.le_of_ble_eq_true rfl)⟩ dX12_text_78 (fun okq5 => ?_)
          refine at_iload_n (pc := 81) C 1 dX12_text_81 rfl rfl ?_
          obtain rfl := Option.some.inj hF
          exact at_iret (pc := 82) C hr hlk h2 okq5 dX12_text_82
        refine at_aload_n (pc := 55) C 0 dX12_text_55 rfl rfl ?_
        refine at_geti (pc := 56) (jz := 8) C fw_12_99 kd94 rfl (Nat.le_of_ble_eq_true rfl) rfl rfl dX12_text_56 ?_
        refine at_if_eq (pc := 59) (tgt := 77) C (ok 94 8) dX12_text_59 rfl (fun c6 => ?_) (fun c6 => ?_)
        · have hF := (if_pos c6).symm.trans hF
          exact J77 v2 σ h2 ok hF
        · have hF := (if_neg c6).symm.trans hF
          refine at_aload_n (pc := 62) C 0 dX12_text_62 rfl rfl ?_
          obtain ⟨q7, eq7, hF⟩ := bind_some' hF
          refine at_callV (pc := 63) (ci := 12) C (c_X12_lineRead l g N  σ q7  ok eq7) kv_X12_lineRead w1501 kd94 rfl rfl rfl rfl (Nat.le_of_ble_eq_true rfl) ⟨rfl, rfl, (Nat.le_of_ble_eq_true rfl), (Nat.le_of_ble_eq_true rfl)⟩ dX12_text_63 (fun tq7 okq7 => ?_)
          refine at_if_ne (pc := 66) (tgt := 71) C (isB.r tq7) dX12_text_66 rfl (fun c8 => ?_) (fun c8 => ?_)
          · have hF := (if_neg c8).symm.trans hF
            refine at_iinc (pc := 71) (lv' := [(2, vi (ja v2 1)), (0, vr g 94)]) C 1 dX12_text_71 rfl (Nat.le_of_ble_eq_true rfl) rfl ?_
            refine at_goto (pc := 74) (tgt := 55) C dX12_text_74 rfl ?_
            refine at_sub (lv' := [(0, vr g 94), (2, vi (ja v2 1))]) [1, 0] rfl ?_
            exact ih55 _ hF (ja_R v2 1) okq7
          · have hF := (if_pos c8).symm.trans hF
            refine at_iconst (pc := 69) C dX12_text_69 ?_
            obtain rfl := Option.some.inj hF
            exact at_iret (pc := 70) C hr hlk (show inR (-1) from ⟨by decide, by decide⟩) okq7 dX12_text_70
      refine at_sub (lv' := [(0, vr g 94), (2, vi 0)]) [1, 0] rfl ?_
      exact L55 0 q4 (isB.r (Or.inl rfl)) okq4 hF
    · have hF := (if_neg c2).symm.trans hF
      refine at_bipush (pc := 17) C dX12_text_17 (by decide) ?_
      obtain rfl := Option.some.inj hF
      exact at_iret (pc := 19) C hr hlk (show inR (-2) from ⟨by decide, by decide⟩) (OK_up (k := 94) (j := 2) ok (isB.r (Or.inl rfl))) dX12_text_19
abbrev rm_X12_fault : Room := { frames := 0, cells := 0, slots := 0, locals := 0 }
def F_X12_fault (N : Nat) (v1 : Int) (σ : Sto) : Option (Int × Sto) :=
  if v1 = 0 then (some (((upI σ 94 2 0).1 94 4), (upI σ 94 2 0))) else (if v1 = 1 then (some (((upI σ 94 2 0).1 94 5), (upI σ 94 2 0))) else (some ((-1), (upI σ 94 2 0))))
set_option maxHeartbeats 4000000 in
set_option maxRecDepth 100000 in
theorem c_X12_fault (l : Launch) (g : Geo) (N : Nat) (v1 : Int) (σ : Sto) (res : Int × Sto) (h1 : inR v1) (ok : OK σ) (hF : F_X12_fault N v1 σ = some res) : MtI l g yX12_fault cX12_fault 2 (some .int) rm_X12_fault [vr g 94, vi v1] σ res.1 res.2 inR := by
  intro sz
  refine Met.ofAt (own := RX12) (QQ := fun z => QI g z res.1 res.2 inR) (by decide +kernel) (Nat.le_of_ble_eq_true rfl) rfl ?_
  intro p e s m args below meth c C hr hlk
  show At p l e rm_X12_fault s m args below meth c 0 0 g 2 (MQ below (QI g s.heap.size res.1 res.2 inR) args s 0 0 (AA g s.heap.size)) 0 [(0, vr g 94), (1, vi v1)] [] σ
  unfold F_X12_fault at hF
  refine at_aload_n (pc := 0) C 0 dX12_fault_0 rfl rfl ?_
  refine at_iconst (pc := 1) C dX12_fault_1 ?_
  refine at_puti (pc := 2) (jz := 2) C fu_12_81 kd94 rfl (Nat.le_of_ble_eq_true rfl) rfl rfl dX12_fault_2 ?_
  refine at_iload_n (pc := 5) C 1 dX12_fault_5 rfl rfl ?_
  refine at_if_ne (pc := 6) (tgt := 16) C h1 dX12_fault_6 rfl (fun c1 => ?_) (fun c1 => ?_)
  · have hF := (if_neg c1).symm.trans hF
    refine at_iload_n (pc := 16) C 1 dX12_fault_16 rfl rfl ?_
    refine at_iconst (pc := 17) C dX12_fault_17 ?_
    refine at_icmp_ne (pc := 18) (tgt := 28) C h1 (isB.r (Or.inr rfl)) dX12_fault_18 rfl (fun c2 => ?_) (fun c2 => ?_)
    · have hF := (if_neg c2).symm.trans hF
      refine at_iconst (pc := 28) C dX12_fault_28 ?_
      obtain rfl := Option.some.inj hF
      exact at_iret (pc := 29) C hr hlk (show inR (-1) from ⟨by decide, by decide⟩) (OK_up (k := 94) (j := 2) ok (isB.r (Or.inl rfl))) dX12_fault_29
    · have hF := (if_pos c2).symm.trans hF
      refine at_aload_n (pc := 21) C 0 dX12_fault_21 rfl rfl ?_
      refine at_geti (pc := 22) (jz := 5) C fw_12_16 kd94 rfl (Nat.le_of_ble_eq_true rfl) rfl rfl dX12_fault_22 ?_
      refine at_goto (pc := 25) (tgt := 29) C dX12_fault_25 rfl ?_
      obtain rfl := Option.some.inj hF
      exact at_iret (pc := 29) C hr hlk (show inR ((upI σ 94 2 0).1 94 5) from ((OK_up (k := 94) (j := 2) ok (isB.r (Or.inl rfl))) 94 5)) (OK_up (k := 94) (j := 2) ok (isB.r (Or.inl rfl))) dX12_fault_29
  · have hF := (if_pos c1).symm.trans hF
    refine at_aload_n (pc := 9) C 0 dX12_fault_9 rfl rfl ?_
    refine at_geti (pc := 10) (jz := 4) C fw_12_87 kd94 rfl (Nat.le_of_ble_eq_true rfl) rfl rfl dX12_fault_10 ?_
    refine at_goto (pc := 13) (tgt := 29) C dX12_fault_13 rfl ?_
    obtain rfl := Option.some.inj hF
    exact at_iret (pc := 29) C hr hlk (show inR ((upI σ 94 2 0).1 94 4) from ((OK_up (k := 94) (j := 2) ok (isB.r (Or.inl rfl))) 94 4)) (OK_up (k := 94) (j := 2) ok (isB.r (Or.inl rfl))) dX12_fault_29
abbrev rm_X12_named : Room := { frames := 1, cells := 0, slots := 0, locals := 24 }
def F_X12_named (N : Nat) (v1 : Int) (σ : Sto) : Option (Int × Sto) :=
  (F_X12_nameAt N v1 0 ((upI σ 94 2 0).1 94 11) (upI σ 94 2 0)).bind (fun q1 => some (q1, (upI σ 94 2 0)))
set_option maxHeartbeats 4000000 in
set_option maxRecDepth 100000 in
theorem c_X12_named (l : Launch) (g : Geo) (N : Nat) (v1 : Int) (σ : Sto) (res : Int × Sto) (h1 : inR v1) (ok : OK σ) (hF : F_X12_named N v1 σ = some res) : MtI l g yX12_named cX12_named 2 (some .int) rm_X12_named [vr g 94, vi v1] σ res.1 res.2 inR := by
  intro sz
  refine Met.ofAt (own := RX12) (QQ := fun z => QI g z res.1 res.2 inR) (by decide +kernel) (Nat.le_of_ble_eq_true rfl) rfl ?_
  intro p e s m args below meth c C hr hlk
  show At p l e rm_X12_named s m args below meth c 0 0 g 2 (MQ below (QI g s.heap.size res.1 res.2 inR) args s 0 0 (AA g s.heap.size)) 0 [(0, vr g 94), (1, vi v1)] [] σ
  unfold F_X12_named at hF
  refine at_aload_n (pc := 0) C 0 dX12_named_0 rfl rfl ?_
  refine at_iconst (pc := 1) C dX12_named_1 ?_
  refine at_puti (pc := 2) (jz := 2) C fu_12_81 kd94 rfl (Nat.le_of_ble_eq_true rfl) rfl rfl dX12_named_2 ?_
  refine at_aload_n (pc := 5) C 0 dX12_named_5 rfl rfl ?_
  refine at_iload_n (pc := 6) C 1 dX12_named_6 rfl rfl ?_
  refine at_iconst (pc := 7) C dX12_named_7 ?_
  refine at_aload_n (pc := 8) C 0 dX12_named_8 rfl rfl ?_
  refine at_geti (pc := 9) (jz := 11) C fw_12_132 kd94 rfl (Nat.le_of_ble_eq_true rfl) rfl rfl dX12_named_9 ?_
  obtain ⟨q1, eq1, hF⟩ := bind_some' hF
  refine at_callV (pc := 12) (ci := 12) C (c_X12_nameAt l g N v1 0 ((upI σ 94 2 0).1 94 11) (upI σ 94 2 0) q1 h1 (isB.r (Or.inl rfl)) ((OK_up (k := 94) (j := 2) ok (isB.r (Or.inl rfl))) 94 11) (OK_up (k := 94) (j := 2) ok (isB.r (Or.inl rfl))) eq1) kv_X12_nameAt w1513 kd94 rfl rfl rfl rfl (Nat.le_of_ble_eq_true rfl) ⟨rfl, rfl, (Nat.le_of_ble_eq_true rfl), (Nat.le_of_ble_eq_true rfl)⟩ dX12_named_12 (fun tq1 okq1 => ?_)
  obtain rfl := Option.some.inj hF
  exact at_iret (pc := 15) C hr hlk tq1 (OK_up (k := 94) (j := 2) ok (isB.r (Or.inl rfl))) dX12_named_15
abbrev rm_X12_of : Room := { frames := 0, cells := 0, slots := 0, locals := 0 }
def F_X12_of (N : Nat) (v1 : Int) (σ : Sto) : Option (Int) :=
  inb (ja (jm 200 (σ.1 94 24)) v1) 4600 (some (σ.1 101 (ja (jm 200 (σ.1 94 24)) v1)))
set_option maxHeartbeats 4000000 in
set_option maxRecDepth 100000 in
theorem c_X12_of (l : Launch) (g : Geo) (N : Nat) (v1 : Int) (σ : Sto) (res : Int) (h1 : inR v1) (ok : OK σ) (hF : F_X12_of N v1 σ = some res) : MtI l g yX12_of cX12_of 2 (some .int) rm_X12_of [vr g 94, vi v1] σ res σ inR := by
  intro sz
  refine Met.ofAt (own := RX12) (QQ := fun z => QI g z res σ inR) (by decide +kernel) (Nat.le_of_ble_eq_true rfl) rfl ?_
  intro p e s m args below meth c C hr hlk
  show At p l e rm_X12_of s m args below meth c 0 0 g 2 (MQ below (QI g s.heap.size res σ inR) args s 0 0 (AA g s.heap.size)) 0 [(0, vr g 94), (1, vi v1)] [] σ
  unfold F_X12_of at hF
  refine at_aload_n (pc := 0) C 0 dX12_of_0 rfl rfl ?_
  refine at_getr (pc := 1) (k' := 101) C 7 fw_12_32 kd94 rfl (Nat.le_of_ble_eq_true rfl) rfl rfl dX12_of_1 ?_
  refine at_sipush (pc := 4) C dX12_of_4 (by decide) ?_
  refine at_aload_n (pc := 7) C 0 dX12_of_7 rfl rfl ?_
  refine at_geti (pc := 8) (jz := 24) C fw_12_148 kd94 rfl (Nat.le_of_ble_eq_true rfl) rfl rfl dX12_of_8 ?_
  refine at_imul (pc := 11) C dX12_of_11 ?_
  refine at_iload_n (pc := 12) C 1 dX12_of_12 rfl rfl ?_
  refine at_iadd (pc := 13) C dX12_of_13 ?_
  obtain ⟨b1, hF⟩ := inb_some hF
  refine at_iaload (pc := 14) C kd101 b1 dX12_of_14 ?_
  obtain rfl := Option.some.inj hF
  exact at_iret (pc := 15) C hr hlk (ok 101 (ja (jm 200 (σ.1 94 24)) v1)) ok dX12_of_15
abbrev rm_X12_copyBank : Room := { frames := 0, cells := 0, slots := 0, locals := 0 }
def F_X12_copyBank_B2 (N : Nat) (nx2 : (Int × Sto) → Option (Sto)) (v1 : Int) (v2 : Int) (v3 : Int) (σ : Sto) : Option (Sto) :=
  if 200 ≤ v3 then (some σ) else (inb (ja (jm 200 v1) v3) 4600 (inb (ja (jm 200 v2) v3) 4600 (nx2 ((ja v3 1), (upI σ 101 (ja (jm 200 v2) v3) (σ.1 101 (ja (jm 200 v1) v3)))))))
def F_X12_copyBank (N : Nat) (v1 : Int) (v2 : Int) (σ : Sto) : Option (Sto) :=
  loopK (fun q nx2 => F_X12_copyBank_B2 N  nx2 v1 v2 q.1 q.2) N (0, σ)
set_option maxHeartbeats 4000000 in
set_option maxRecDepth 100000 in
theorem c_X12_copyBank (l : Launch) (g : Geo) (N : Nat) (v1 : Int) (v2 : Int) (σ : Sto) (res : Sto) (h1 : inR v1) (h2 : inR v2) (ok : OK σ) (hF : F_X12_copyBank N v1 v2 σ = some res) : MtV l g yX12_copyBank cX12_copyBank 4 none rm_X12_copyBank [vr g 94, vi v1, vi v2] σ res := by
  intro sz
  refine Met.ofAt (own := RX12) (QQ := fun z => QV g z res) (by decide +kernel) (Nat.le_of_ble_eq_true rfl) rfl ?_
  intro p e s m args below meth c C hr hlk
  show At p l e rm_X12_copyBank s m args below meth c 0 0 g 4 (MQ below (QV g s.heap.size res) args s 0 0 (AA g s.heap.size)) 0 [(0, vr g 94), (1, vi v1), (2, vi v2)] [] σ
  unfold F_X12_copyBank at hF
  refine at_iconst (pc := 0) C dX12_copyBank_0 ?_
  refine at_istore_n (pc := 1) (lv' := [(3, vi 0), (0, vr g 94), (1, vi v1), (2, vi v2)]) C dX12_copyBank_1 rfl (Nat.le_of_ble_eq_true rfl) rfl ?_
  have L2 : ∀ (v1 : Int) (v2 : Int) (v3 : Int) (σ : Sto), inR v1 → inR v2 → inR v3 → OK σ → loopK (fun q nx2 => F_X12_copyBank_B2 N  nx2 v1 v2 q.1 q.2) N (v3, σ) = some res → At p l e rm_X12_copyBank s m args below meth c 0 0 g 4 (MQ below (QV g s.heap.size res) args s 0 0 (AA g s.heap.size)) 2 [(0, vr g 94), (1, vi v1), (2, vi v2), (3, vi v3)] [] σ := by
    intro v1 v2 v3 σ h1 h2 h3 ok hF
    refine loopK_ind (res := res) (P := fun (q : Int × Sto) => inR q.1 → OK q.2 → At p l e rm_X12_copyBank s m args below meth c 0 0 g 4 (MQ below (QV g s.heap.size res) args s 0 0 (AA g s.heap.size)) 2 [(0, vr g 94), (1, vi v1), (2, vi v2), (3, vi q.1)] [] q.2) ?_ N _ hF h3 ok
    intro nx2 q ih2 hF
    obtain ⟨v3, σ⟩ := q
    intro h3 ok
    have hF : F_X12_copyBank_B2 N  nx2 v1 v2 v3 σ = some res := hF
    unfold F_X12_copyBank_B2 at hF
    refine at_iload_n (pc := 2) C 3 dX12_copyBank_2 rfl rfl ?_
    refine at_sipush (pc := 3) C dX12_copyBank_3 (by decide) ?_
    refine at_icmp_ge (pc := 6) (tgt := 39) C h3 (show inR 200 from ⟨by decide, by decide⟩) dX12_copyBank_6 rfl (fun c1 => ?_) (fun c1 => ?_)
    · have hF := (if_pos c1).symm.trans hF
      obtain rfl := Option.some.inj hF
      exact at_vret (pc := 39) C hr hlk ok dX12_copyBank_39
    · have hF := (if_neg c1).symm.trans hF
      refine at_aload_n (pc := 9) C 0 dX12_copyBank_9 rfl rfl ?_
      refine at_getr (pc := 10) (k' := 101) C 7 fw_12_32 kd94 rfl (Nat.le_of_ble_eq_true rfl) rfl rfl dX12_copyBank_10 ?_
      refine at_sipush (pc := 13) C dX12_copyBank_13 (by decide) ?_
      refine at_iload_n (pc := 16) C 2 dX12_copyBank_16 rfl rfl ?_
      refine at_imul (pc := 17) C dX12_copyBank_17 ?_
      refine at_iload_n (pc := 18) C 3 dX12_copyBank_18 rfl rfl ?_
      refine at_iadd (pc := 19) C dX12_copyBank_19 ?_
      refine at_aload_n (pc := 20) C 0 dX12_copyBank_20 rfl rfl ?_
      refine at_getr (pc := 21) (k' := 101) C 7 fw_12_32 kd94 rfl (Nat.le_of_ble_eq_true rfl) rfl rfl dX12_copyBank_21 ?_
      refine at_sipush (pc := 24) C dX12_copyBank_24 (by decide) ?_
      refine at_iload_n (pc := 27) C 1 dX12_copyBank_27 rfl rfl ?_
      refine at_imul (pc := 28) C dX12_copyBank_28 ?_
      refine at_iload_n (pc := 29) C 3 dX12_copyBank_29 rfl rfl ?_
      refine at_iadd (pc := 30) C dX12_copyBank_30 ?_
      obtain ⟨b2, hF⟩ := inb_some hF
      refine at_iaload (pc := 31) C kd101 b2 dX12_copyBank_31 ?_
      obtain ⟨b3, hF⟩ := inb_some hF
      refine at_iastore (pc := 32) C kd101 b3 dX12_copyBank_32 ?_
      refine at_iinc (pc := 33) (lv' := [(3, vi (ja v3 1)), (0, vr g 94), (1, vi v1), (2, vi v2)]) C 3 dX12_copyBank_33 rfl (Nat.le_of_ble_eq_true rfl) rfl ?_
      refine at_goto (pc := 36) (tgt := 2) C dX12_copyBank_36 rfl ?_
      refine at_sub (lv' := [(0, vr g 94), (1, vi v1), (2, vi v2), (3, vi (ja v3 1))]) [1, 2, 3, 0] rfl ?_
      exact ih2 _ hF (ja_R v3 1) (OK_up (k := 101) (j := (ja (jm 200 v2) v3)) ok (ok 101 (ja (jm 200 v1) v3)))
  refine at_sub (lv' := [(0, vr g 94), (1, vi v1), (2, vi v2), (3, vi 0)]) [1, 2, 3, 0] rfl ?_
  exact L2 v1 v2 0 σ h1 h2 (isB.r (Or.inl rfl)) ok hF
abbrev rm_X12_canUndo : Room := { frames := 1, cells := 0, slots := 0, locals := 23 }
def F_X12_canUndo_J39 (N : Nat)   (σ : Sto) : Option (Sto) :=
  (F_X12_copyBank N 0 (ja 3 (σ.1 94 25)) σ).bind (fun q1 => some (upI q1 94 25 (ja (q1.1 94 25) 1)))
def F_X12_canUndo_J33 (N : Nat)   (σ : Sto) : Option (Sto) :=
  F_X12_canUndo_J39 N   (upI σ 94 25 19)
def F_X12_canUndo_B11 (N : Nat) (nx11 : (Int × Sto) → Option (Sto))  (v1 : Int) (σ : Sto) : Option (Sto) :=
  if 20 ≤ v1 then (F_X12_canUndo_J33 N   σ) else ((F_X12_copyBank N (ja 3 v1) (ja 2 v1) σ).bind (fun q4 => nx11 ((ja v1 1), q4)))
def F_X12_canUndo (N : Nat)  (σ : Sto) : Option (Sto) :=
  if (σ.1 94 25) = 20 then (loopK (fun q nx11 => F_X12_canUndo_B11 N  nx11  q.1 q.2) N (1, σ)) else (F_X12_canUndo_J39 N   σ)
set_option maxHeartbeats 4000000 in
set_option maxRecDepth 100000 in
theorem c_X12_canUndo (l : Launch) (g : Geo) (N : Nat)  (σ : Sto) (res : Sto)  (ok : OK σ) (hF : F_X12_canUndo N  σ = some res) : MtV l g yX12_canUndo cX12_canUndo 2 none rm_X12_canUndo [vr g 94] σ res := by
  intro sz
  refine Met.ofAt (own := RX12) (QQ := fun z => QV g z res) (by decide +kernel) (Nat.le_of_ble_eq_true rfl) rfl ?_
  intro p e s m args below meth c C hr hlk
  show At p l e rm_X12_canUndo s m args below meth c 0 0 g 2 (MQ below (QV g s.heap.size res) args s 0 0 (AA g s.heap.size)) 0 [(0, vr g 94)] [] σ
  unfold F_X12_canUndo at hF
  have J39 : ∀  (σ : Sto), OK σ → F_X12_canUndo_J39 N   σ = some res → At p l e rm_X12_canUndo s m args below meth c 0 0 g 2 (MQ below (QV g s.heap.size res) args s 0 0 (AA g s.heap.size)) 39 [(0, vr g 94)] [] σ := by
    intro σ ok hF
    unfold F_X12_canUndo_J39 at hF
    refine at_aload_n (pc := 39) C 0 dX12_canUndo_39 rfl rfl ?_
    refine at_iconst (pc := 40) C dX12_canUndo_40 ?_
    refine at_iconst (pc := 41) C dX12_canUndo_41 ?_
    refine at_aload_n (pc := 42) C 0 dX12_canUndo_42 rfl rfl ?_
    refine at_geti (pc := 43) (jz := 25) C fw_12_151 kd94 rfl (Nat.le_of_ble_eq_true rfl) rfl rfl dX12_canUndo_43 ?_
    refine at_iadd (pc := 46) C dX12_canUndo_46 ?_
    obtain ⟨q1, eq1, hF⟩ := bind_some' hF
    refine at_callVv (pc := 47) (ci := 12) C (c_X12_copyBank l g N 0 (ja 3 (σ.1 94 25)) σ q1 (isB.r (Or.inl rfl)) (ja_R 3 (σ.1 94 25)) ok eq1) kv_X12_copyBank w1557 kd94 rfl rfl rfl rfl (Nat.le_of_ble_eq_true rfl) ⟨rfl, rfl, (Nat.le_of_ble_eq_true rfl), (Nat.le_of_ble_eq_true rfl)⟩ dX12_canUndo_47 (fun okq1 => ?_)
    refine at_aload_n (pc := 50) C 0 dX12_canUndo_50 rfl rfl ?_
    refine at_dup (pc := 51) C dX12_canUndo_51 rfl ?_
    refine at_geti (pc := 52) (jz := 25) C fw_12_151 kd94 rfl (Nat.le_of_ble_eq_true rfl) rfl rfl dX12_canUndo_52 ?_
    refine at_iconst (pc := 55) C dX12_canUndo_55 ?_
    refine at_iadd (pc := 56) C dX12_canUndo_56 ?_
    refine at_puti (pc := 57) (jz := 25) C fu_12_151 kd94 rfl (Nat.le_of_ble_eq_true rfl) rfl rfl dX12_canUndo_57 ?_
    obtain rfl := Option.some.inj hF
    exact at_vret (pc := 60) C hr hlk (OK_up (k := 94) (j := 25) okq1 (ja_R (q1.1 94 25) 1)) dX12_canUndo_60
  refine at_aload_n (pc := 0) C 0 dX12_canUndo_0 rfl rfl ?_
  refine at_geti (pc := 1) (jz := 25) C fw_12_151 kd94 rfl (Nat.le_of_ble_eq_true rfl) rfl rfl dX12_canUndo_1 ?_
  refine at_bipush (pc := 4) C dX12_canUndo_4 (by decide) ?_
  refine at_icmp_ne (pc := 6) (tgt := 39) C (ok 94 25) (show inR 20 from ⟨by decide, by decide⟩) dX12_canUndo_6 rfl (fun c2 => ?_) (fun c2 => ?_)
  · have hF := (if_neg c2).symm.trans hF
    exact J39 σ ok hF
  · have hF := (if_pos c2).symm.trans hF
    refine at_iconst (pc := 9) C dX12_canUndo_9 ?_
    refine at_istore_n (pc := 10) (lv' := [(1, vi 1), (0, vr g 94)]) C dX12_canUndo_10 rfl (Nat.le_of_ble_eq_true rfl) rfl ?_
    have L11 : ∀ (v1 : Int) (σ : Sto), inR v1 → OK σ → loopK (fun q nx11 => F_X12_canUndo_B11 N  nx11  q.1 q.2) N (v1, σ) = some res → At p l e rm_X12_canUndo s m args below meth c 0 0 g 2 (MQ below (QV g s.heap.size res) args s 0 0 (AA g s.heap.size)) 11 [(0, vr g 94), (1, vi v1)] [] σ := by
      intro v1 σ h1 ok hF
      refine loopK_ind (res := res) (P := fun (q : Int × Sto) => inR q.1 → OK q.2 → At p l e rm_X12_canUndo s m args below meth c 0 0 g 2 (MQ below (QV g s.heap.size res) args s 0 0 (AA g s.heap.size)) 11 [(0, vr g 94), (1, vi q.1)] [] q.2) ?_ N _ hF h1 ok
      intro nx11 q ih11 hF
      obtain ⟨v1, σ⟩ := q
      intro h1 ok
      have hF : F_X12_canUndo_B11 N  nx11  v1 σ = some res := hF
      unfold F_X12_canUndo_B11 at hF
      have J33 : ∀  (σ : Sto), OK σ → F_X12_canUndo_J33 N   σ = some res → At p l e rm_X12_canUndo s m args below meth c 0 0 g 2 (MQ below (QV g s.heap.size res) args s 0 0 (AA g s.heap.size)) 33 [(0, vr g 94)] [] σ := by
        intro σ ok hF
        unfold F_X12_canUndo_J33 at hF
        refine at_aload_n (pc := 33) C 0 dX12_canUndo_33 rfl rfl ?_
        refine at_bipush (pc := 34) C dX12_canUndo_34 (by decide) ?_
        refine at_puti (pc := 36) (jz := 25) C fu_12_151 kd94 rfl (Nat.le_of_ble_eq_true rfl) rfl rfl dX12_canUndo_36 ?_
        exact J39 (upI σ 94 25 19) (OK_up (k := 94) (j := 25) ok (show inR 19 from ⟨by decide, by decide⟩)) hF
      refine at_iload_n (pc := 11) C 1 dX12_canUndo_11 rfl rfl ?_
      refine at_bipush (pc := 12) C dX12_canUndo_12 (by decide) ?_
      refine at_icmp_ge (pc := 14) (tgt := 33) C h1 (show inR 20 from ⟨by decide, by decide⟩) dX12_canUndo_14 rfl (fun c3 => ?_) (fun c3 => ?_)
      · have hF := (if_pos c3).symm.trans hF
        refine at_sub (lv' := [(0, vr g 94)]) [0] rfl ?_
        exact J33 σ ok hF
      · have hF := (if_neg c3).symm.trans hF
        refine at_aload_n (pc := 17) C 0 dX12_canUndo_17 rfl rfl ?_
        refine at_iconst (pc := 18) C dX12_canUndo_18 ?_
        refine at_iload_n (pc := 19) C 1 dX12_canUndo_19 rfl rfl ?_
        refine at_iadd (pc := 20) C dX12_canUndo_20 ?_
        refine at_iconst (pc := 21) C dX12_canUndo_21 ?_
        refine at_iload_n (pc := 22) C 1 dX12_canUndo_22 rfl rfl ?_
        refine at_iadd (pc := 23) C dX12_canUndo_23 ?_
        obtain ⟨q4, eq4, hF⟩ := bind_some' hF
        refine at_callVv (pc := 24) (ci := 12) C (c_X12_copyBank l g N (ja 3 v1) (ja 2 v1) σ q4 (ja_R 3 v1) (ja_R 2 v1) ok eq4) kv_X12_copyBank w1557 kd94 rfl rfl rfl rfl (Nat.le_of_ble_eq_true rfl) ⟨rfl, rfl, (Nat.le_of_ble_eq_true rfl), (Nat.le_of_ble_eq_true rfl)⟩ dX12_canUndo_24 (fun okq4 => ?_)
        refine at_iinc (pc := 27) (lv' := [(1, vi (ja v1 1)), (0, vr g 94)]) C 1 dX12_canUndo_27 rfl (Nat.le_of_ble_eq_true rfl) rfl ?_
        refine at_goto (pc := 30) (tgt := 11) C dX12_canUndo_30 rfl ?_
        refine at_sub (lv' := [(0, vr g 94), (1, vi (ja v1 1))]) [1, 0] rfl ?_
        exact ih11 _ hF (ja_R v1 1) okq4
    refine at_sub (lv' := [(0, vr g 94), (1, vi 1)]) [1, 0] rfl ?_
    exact L11 1 σ (isB.r (Or.inr rfl)) ok hF
abbrev rm_X12_undo : Room := { frames := 1, cells := 0, slots := 0, locals := 23 }
def F_X12_undo (N : Nat)  (σ : Sto) : Option (Int × Sto) :=
  if ((upI σ 94 2 0).1 94 25) = 0 then (some ((-1), (upI σ 94 2 0))) else ((F_X12_copyBank N (ja 3 ((upI (upI σ 94 2 0) 94 25 (js ((upI σ 94 2 0).1 94 25) 1)).1 94 25)) 0 (upI (upI σ 94 2 0) 94 25 (js ((upI σ 94 2 0).1 94 25) 1))).bind (fun q2 => some ((q2.1 94 25), q2)))
set_option maxHeartbeats 4000000 in
set_option maxRecDepth 100000 in
theorem c_X12_undo (l : Launch) (g : Geo) (N : Nat)  (σ : Sto) (res : Int × Sto)  (ok : OK σ) (hF : F_X12_undo N  σ = some res) : MtI l g yX12_undo cX12_undo 1 (some .int) rm_X12_undo [vr g 94] σ res.1 res.2 inR := by
  intro sz
  refine Met.ofAt (own := RX12) (QQ := fun z => QI g z res.1 res.2 inR) (by decide +kernel) (Nat.le_of_ble_eq_true rfl) rfl ?_
  intro p e s m args below meth c C hr hlk
  show At p l e rm_X12_undo s m args below meth c 0 0 g 1 (MQ below (QI g s.heap.size res.1 res.2 inR) args s 0 0 (AA g s.heap.size)) 0 [(0, vr g 94)] [] σ
  unfold F_X12_undo at hF
  refine at_aload_n (pc := 0) C 0 dX12_undo_0 rfl rfl ?_
  refine at_iconst (pc := 1) C dX12_undo_1 ?_
  refine at_puti (pc := 2) (jz := 2) C fu_12_81 kd94 rfl (Nat.le_of_ble_eq_true rfl) rfl rfl dX12_undo_2 ?_
  refine at_aload_n (pc := 5) C 0 dX12_undo_5 rfl rfl ?_
  refine at_geti (pc := 6) (jz := 25) C fw_12_151 kd94 rfl (Nat.le_of_ble_eq_true rfl) rfl rfl dX12_undo_6 ?_
  refine at_if_ne (pc := 9) (tgt := 14) C ((OK_up (k := 94) (j := 2) ok (isB.r (Or.inl rfl))) 94 25) dX12_undo_9 rfl (fun c1 => ?_) (fun c1 => ?_)
  · have hF := (if_neg c1).symm.trans hF
    refine at_aload_n (pc := 14) C 0 dX12_undo_14 rfl rfl ?_
    refine at_dup (pc := 15) C dX12_undo_15 rfl ?_
    refine at_geti (pc := 16) (jz := 25) C fw_12_151 kd94 rfl (Nat.le_of_ble_eq_true rfl) rfl rfl dX12_undo_16 ?_
    refine at_iconst (pc := 19) C dX12_undo_19 ?_
    refine at_isub (pc := 20) C dX12_undo_20 ?_
    refine at_puti (pc := 21) (jz := 25) C fu_12_151 kd94 rfl (Nat.le_of_ble_eq_true rfl) rfl rfl dX12_undo_21 ?_
    refine at_aload_n (pc := 24) C 0 dX12_undo_24 rfl rfl ?_
    refine at_iconst (pc := 25) C dX12_undo_25 ?_
    refine at_aload_n (pc := 26) C 0 dX12_undo_26 rfl rfl ?_
    refine at_geti (pc := 27) (jz := 25) C fw_12_151 kd94 rfl (Nat.le_of_ble_eq_true rfl) rfl rfl dX12_undo_27 ?_
    refine at_iadd (pc := 30) C dX12_undo_30 ?_
    refine at_iconst (pc := 31) C dX12_undo_31 ?_
    obtain ⟨q2, eq2, hF⟩ := bind_some' hF
    refine at_callVv (pc := 32) (ci := 12) C (c_X12_copyBank l g N (ja 3 ((upI (upI σ 94 2 0) 94 25 (js ((upI σ 94 2 0).1 94 25) 1)).1 94 25)) 0 (upI (upI σ 94 2 0) 94 25 (js ((upI σ 94 2 0).1 94 25) 1)) q2 (ja_R 3 ((upI (upI σ 94 2 0) 94 25 (js ((upI σ 94 2 0).1 94 25) 1)).1 94 25)) (isB.r (Or.inl rfl)) (OK_up (k := 94) (j := 25) (OK_up (k := 94) (j := 2) ok (isB.r (Or.inl rfl))) (js_R ((upI σ 94 2 0).1 94 25) 1)) eq2) kv_X12_copyBank w1557 kd94 rfl rfl rfl rfl (Nat.le_of_ble_eq_true rfl) ⟨rfl, rfl, (Nat.le_of_ble_eq_true rfl), (Nat.le_of_ble_eq_true rfl)⟩ dX12_undo_32 (fun okq2 => ?_)
    refine at_aload_n (pc := 35) C 0 dX12_undo_35 rfl rfl ?_
    refine at_geti (pc := 36) (jz := 25) C fw_12_151 kd94 rfl (Nat.le_of_ble_eq_true rfl) rfl rfl dX12_undo_36 ?_
    obtain rfl := Option.some.inj hF
    exact at_iret (pc := 39) C hr hlk (okq2 94 25) okq2 dX12_undo_39
  · have hF := (if_pos c1).symm.trans hF
    refine at_iconst (pc := 12) C dX12_undo_12 ?_
    obtain rfl := Option.some.inj hF
    exact at_iret (pc := 13) C hr hlk (show inR (-1) from ⟨by decide, by decide⟩) (OK_up (k := 94) (j := 2) ok (isB.r (Or.inl rfl))) dX12_undo_13
abbrev rm_X12_keep : Room := { frames := 1, cells := 0, slots := 0, locals := 23 }
def F_X12_keep (N : Nat)  (σ : Sto) : Option (Int × Sto) :=
  (F_X12_copyBank N 0 2 (upI σ 94 2 0)).bind (fun q1 => (F_X12_of N 0 (upI q1 94 26 1)).bind (fun q2 => some (q2, (upI q1 94 26 1))))
set_option maxHeartbeats 4000000 in
set_option maxRecDepth 100000 in
theorem c_X12_keep (l : Launch) (g : Geo) (N : Nat)  (σ : Sto) (res : Int × Sto)  (ok : OK σ) (hF : F_X12_keep N  σ = some res) : MtI l g yX12_keep cX12_keep 1 (some .int) rm_X12_keep [vr g 94] σ res.1 res.2 inR := by
  intro sz
  refine Met.ofAt (own := RX12) (QQ := fun z => QI g z res.1 res.2 inR) (by decide +kernel) (Nat.le_of_ble_eq_true rfl) rfl ?_
  intro p e s m args below meth c C hr hlk
  show At p l e rm_X12_keep s m args below meth c 0 0 g 1 (MQ below (QI g s.heap.size res.1 res.2 inR) args s 0 0 (AA g s.heap.size)) 0 [(0, vr g 94)] [] σ
  unfold F_X12_keep at hF
  refine at_aload_n (pc := 0) C 0 dX12_keep_0 rfl rfl ?_
  refine at_iconst (pc := 1) C dX12_keep_1 ?_
  refine at_puti (pc := 2) (jz := 2) C fu_12_81 kd94 rfl (Nat.le_of_ble_eq_true rfl) rfl rfl dX12_keep_2 ?_
  refine at_aload_n (pc := 5) C 0 dX12_keep_5 rfl rfl ?_
  refine at_iconst (pc := 6) C dX12_keep_6 ?_
  refine at_iconst (pc := 7) C dX12_keep_7 ?_
  obtain ⟨q1, eq1, hF⟩ := bind_some' hF
  refine at_callVv (pc := 8) (ci := 12) C (c_X12_copyBank l g N 0 2 (upI σ 94 2 0) q1 (isB.r (Or.inl rfl)) (show inR 2 from ⟨by decide, by decide⟩) (OK_up (k := 94) (j := 2) ok (isB.r (Or.inl rfl))) eq1) kv_X12_copyBank w1557 kd94 rfl rfl rfl rfl (Nat.le_of_ble_eq_true rfl) ⟨rfl, rfl, (Nat.le_of_ble_eq_true rfl), (Nat.le_of_ble_eq_true rfl)⟩ dX12_keep_8 (fun okq1 => ?_)
  refine at_aload_n (pc := 11) C 0 dX12_keep_11 rfl rfl ?_
  refine at_iconst (pc := 12) C dX12_keep_12 ?_
  refine at_putz (pc := 13) (jz := 26) C fu_12_154 kd94 rfl (Nat.le_of_ble_eq_true rfl) rfl (Or.inr rfl) rfl dX12_keep_13 ?_
  refine at_aload_n (pc := 16) C 0 dX12_keep_16 rfl rfl ?_
  refine at_iconst (pc := 17) C dX12_keep_17 ?_
  obtain ⟨q2, eq2, hF⟩ := bind_some' hF
  refine at_callV (pc := 18) (ci := 12) C (c_X12_of l g N 0 (upI q1 94 26 1) q2 (isB.r (Or.inl rfl)) (OK_up (k := 94) (j := 26) okq1 (isB.r (Or.inr rfl))) eq2) kv_X12_of w1565 kd94 rfl rfl rfl rfl (Nat.le_of_ble_eq_true rfl) ⟨rfl, rfl, (Nat.le_of_ble_eq_true rfl), (Nat.le_of_ble_eq_true rfl)⟩ dX12_keep_18 (fun tq2 okq2 => ?_)
  obtain rfl := Option.some.inj hF
  exact at_iret (pc := 21) C hr hlk tq2 (OK_up (k := 94) (j := 26) okq1 (isB.r (Or.inr rfl))) dX12_keep_21
abbrev rm_X12_back : Room := { frames := 1, cells := 0, slots := 0, locals := 23 }
def F_X12_back (N : Nat)  (σ : Sto) : Option (Int × Sto) :=
  if ((upI σ 94 2 0).1 94 26) = 0 then (some ((-1), (upI σ 94 2 0))) else ((F_X12_copyBank N 2 0 (upI σ 94 2 0)).bind (fun q2 => (F_X12_of N 0 (upI q2 94 25 0)).bind (fun q3 => some (q3, (upI q2 94 25 0)))))
set_option maxHeartbeats 4000000 in
set_option maxRecDepth 100000 in
theorem c_X12_back (l : Launch) (g : Geo) (N : Nat)  (σ : Sto) (res : Int × Sto)  (ok : OK σ) (hF : F_X12_back N  σ = some res) : MtI l g yX12_back cX12_back 1 (some .int) rm_X12_back [vr g 94] σ res.1 res.2 inR := by
  intro sz
  refine Met.ofAt (own := RX12) (QQ := fun z => QI g z res.1 res.2 inR) (by decide +kernel) (Nat.le_of_ble_eq_true rfl) rfl ?_
  intro p e s m args below meth c C hr hlk
  show At p l e rm_X12_back s m args below meth c 0 0 g 1 (MQ below (QI g s.heap.size res.1 res.2 inR) args s 0 0 (AA g s.heap.size)) 0 [(0, vr g 94)] [] σ
  unfold F_X12_back at hF
  refine at_aload_n (pc := 0) C 0 dX12_back_0 rfl rfl ?_
  refine at_iconst (pc := 1) C dX12_back_1 ?_
  refine at_puti (pc := 2) (jz := 2) C fu_12_81 kd94 rfl (Nat.le_of_ble_eq_true rfl) rfl rfl dX12_back_2 ?_
  refine at_aload_n (pc := 5) C 0 dX12_back_5 rfl rfl ?_
  refine at_geti (pc := 6) (jz := 26) C fw_12_154 kd94 rfl (Nat.le_of_ble_eq_true rfl) rfl rfl dX12_back_6 ?_
  refine at_if_ne (pc := 9) (tgt := 14) C ((OK_up (k := 94) (j := 2) ok (isB.r (Or.inl rfl))) 94 26) dX12_back_9 rfl (fun c1 => ?_) (fun c1 => ?_)
  · have hF := (if_neg c1).symm.trans hF
    refine at_aload_n (pc := 14) C 0 dX12_back_14 rfl rfl ?_
    refine at_iconst (pc := 15) C dX12_back_15 ?_
    refine at_iconst (pc := 16) C dX12_back_16 ?_
    obtain ⟨q2, eq2, hF⟩ := bind_some' hF
    refine at_callVv (pc := 17) (ci := 12) C (c_X12_copyBank l g N 2 0 (upI σ 94 2 0) q2 (show inR 2 from ⟨by decide, by decide⟩) (isB.r (Or.inl rfl)) (OK_up (k := 94) (j := 2) ok (isB.r (Or.inl rfl))) eq2) kv_X12_copyBank w1557 kd94 rfl rfl rfl rfl (Nat.le_of_ble_eq_true rfl) ⟨rfl, rfl, (Nat.le_of_ble_eq_true rfl), (Nat.le_of_ble_eq_true rfl)⟩ dX12_back_17 (fun okq2 => ?_)
    refine at_aload_n (pc := 20) C 0 dX12_back_20 rfl rfl ?_
    refine at_iconst (pc := 21) C dX12_back_21 ?_
    refine at_puti (pc := 22) (jz := 25) C fu_12_151 kd94 rfl (Nat.le_of_ble_eq_true rfl) rfl rfl dX12_back_22 ?_
    refine at_aload_n (pc := 25) C 0 dX12_back_25 rfl rfl ?_
    refine at_iconst (pc := 26) C dX12_back_26 ?_
    obtain ⟨q3, eq3, hF⟩ := bind_some' hF
    refine at_callV (pc := 27) (ci := 12) C (c_X12_of l g N 0 (upI q2 94 25 0) q3 (isB.r (Or.inl rfl)) (OK_up (k := 94) (j := 25) okq2 (isB.r (Or.inl rfl))) eq3) kv_X12_of w1565 kd94 rfl rfl rfl rfl (Nat.le_of_ble_eq_true rfl) ⟨rfl, rfl, (Nat.le_of_ble_eq_true rfl), (Nat.le_of_ble_eq_true rfl)⟩ dX12_back_27 (fun tq3 okq3 => ?_)
    obtain rfl := Option.some.inj hF
    exact at_iret (pc := 30) C hr hlk tq3 (OK_up (k := 94) (j := 25) okq2 (isB.r (Or.inl rfl))) dX12_back_30
  · have hF := (if_pos c1).symm.trans hF
    refine at_iconst (pc := 12) C dX12_back_12 ?_
    obtain rfl := Option.some.inj hF
    exact at_iret (pc := 13) C hr hlk (show inR (-1) from ⟨by decide, by decide⟩) (OK_up (k := 94) (j := 2) ok (isB.r (Or.inl rfl))) dX12_back_13
abbrev rm_X12_isMember : Room := { frames := 0, cells := 0, slots := 0, locals := 0 }
def F_X12_isMember_J16 (N : Nat)   (σ : Sto) : Option (Int) :=
  some 0
def F_X12_isMember (N : Nat) (v1 : Int) (σ : Sto) : Option (Int) :=
  if v1 < 0 then (F_X12_isMember_J16 N   σ) else (if (σ.1 94 11) ≤ v1 then (F_X12_isMember_J16 N   σ) else (some 1))
set_option maxHeartbeats 4000000 in
set_option maxRecDepth 100000 in
theorem c_X12_isMember (l : Launch) (g : Geo) (N : Nat) (v1 : Int) (σ : Sto) (res : Int) (h1 : inR v1) (ok : OK σ) (hF : F_X12_isMember N v1 σ = some res) : MtI l g yX12_isMember cX12_isMember 2 (some .boolean) rm_X12_isMember [vr g 94, vi v1] σ res σ isB := by
  intro sz
  refine Met.ofAt (own := RX12) (QQ := fun z => QI g z res σ isB) (by decide +kernel) (Nat.le_of_ble_eq_true rfl) rfl ?_
  intro p e s m args below meth c C hr hlk
  show At p l e rm_X12_isMember s m args below meth c 0 0 g 2 (MQ below (QI g s.heap.size res σ isB) args s 0 0 (AA g s.heap.size)) 0 [(0, vr g 94), (1, vi v1)] [] σ
  unfold F_X12_isMember at hF
  have J16 : F_X12_isMember_J16 N   σ = some res → At p l e rm_X12_isMember s m args below meth c 0 0 g 2 (MQ below (QI g s.heap.size res σ isB) args s 0 0 (AA g s.heap.size)) 16 [] [] σ := by
    intro   hF
    unfold F_X12_isMember_J16 at hF
    refine at_iconst (pc := 16) C dX12_isMember_16 ?_
    obtain rfl := Option.some.inj hF
    exact at_zret (pc := 17) C hr hlk (Or.inl rfl) ok dX12_isMember_17
  refine at_iload_n (pc := 0) C 1 dX12_isMember_0 rfl rfl ?_
  refine at_if_lt (pc := 1) (tgt := 16) C h1 dX12_isMember_1 rfl (fun c1 => ?_) (fun c1 => ?_)
  · have hF := (if_pos c1).symm.trans hF
    refine at_sub (lv' := []) [] rfl ?_
    exact J16  hF
  · have hF := (if_neg c1).symm.trans hF
    refine at_iload_n (pc := 4) C 1 dX12_isMember_4 rfl rfl ?_
    refine at_aload_n (pc := 5) C 0 dX12_isMember_5 rfl rfl ?_
    refine at_geti (pc := 6) (jz := 11) C fw_12_132 kd94 rfl (Nat.le_of_ble_eq_true rfl) rfl rfl dX12_isMember_6 ?_
    refine at_icmp_ge (pc := 9) (tgt := 16) C h1 (ok 94 11) dX12_isMember_9 rfl (fun c2 => ?_) (fun c2 => ?_)
    · have hF := (if_pos c2).symm.trans hF
      refine at_sub (lv' := []) [] rfl ?_
      exact J16  hF
    · have hF := (if_neg c2).symm.trans hF
      refine at_iconst (pc := 12) C dX12_isMember_12 ?_
      refine at_goto (pc := 13) (tgt := 17) C dX12_isMember_13 rfl ?_
      obtain rfl := Option.some.inj hF
      exact at_zret (pc := 17) C hr hlk (Or.inr rfl) ok dX12_isMember_17
abbrev rm_X12_isPeriod : Room := { frames := 0, cells := 0, slots := 0, locals := 0 }
def F_X12_isPeriod_J16 (N : Nat)   (σ : Sto) : Option (Int) :=
  some 0
def F_X12_isPeriod (N : Nat) (v1 : Int) (σ : Sto) : Option (Int) :=
  if v1 < 0 then (F_X12_isPeriod_J16 N   σ) else (if (σ.1 94 14) ≤ v1 then (F_X12_isPeriod_J16 N   σ) else (some 1))
set_option maxHeartbeats 4000000 in
set_option maxRecDepth 100000 in
theorem c_X12_isPeriod (l : Launch) (g : Geo) (N : Nat) (v1 : Int) (σ : Sto) (res : Int) (h1 : inR v1) (ok : OK σ) (hF : F_X12_isPeriod N v1 σ = some res) : MtI l g yX12_isPeriod cX12_isPeriod 2 (some .boolean) rm_X12_isPeriod [vr g 94, vi v1] σ res σ isB := by
  intro sz
  refine Met.ofAt (own := RX12) (QQ := fun z => QI g z res σ isB) (by decide +kernel) (Nat.le_of_ble_eq_true rfl) rfl ?_
  intro p e s m args below meth c C hr hlk
  show At p l e rm_X12_isPeriod s m args below meth c 0 0 g 2 (MQ below (QI g s.heap.size res σ isB) args s 0 0 (AA g s.heap.size)) 0 [(0, vr g 94), (1, vi v1)] [] σ
  unfold F_X12_isPeriod at hF
  have J16 : F_X12_isPeriod_J16 N   σ = some res → At p l e rm_X12_isPeriod s m args below meth c 0 0 g 2 (MQ below (QI g s.heap.size res σ isB) args s 0 0 (AA g s.heap.size)) 16 [] [] σ := by
    intro   hF
    unfold F_X12_isPeriod_J16 at hF
    refine at_iconst (pc := 16) C dX12_isPeriod_16 ?_
    obtain rfl := Option.some.inj hF
    exact at_zret (pc := 17) C hr hlk (Or.inl rfl) ok dX12_isPeriod_17
  refine at_iload_n (pc := 0) C 1 dX12_isPeriod_0 rfl rfl ?_
  refine at_if_lt (pc := 1) (tgt := 16) C h1 dX12_isPeriod_1 rfl (fun c1 => ?_) (fun c1 => ?_)
  · have hF := (if_pos c1).symm.trans hF
    refine at_sub (lv' := []) [] rfl ?_
    exact J16  hF
  · have hF := (if_neg c1).symm.trans hF
    refine at_iload_n (pc := 4) C 1 dX12_isPeriod_4 rfl rfl ?_
    refine at_aload_n (pc := 5) C 0 dX12_isPeriod_5 rfl rfl ?_
    refine at_geti (pc := 6) (jz := 14) C fw_12_135 kd94 rfl (Nat.le_of_ble_eq_true rfl) rfl rfl dX12_isPeriod_6 ?_
    refine at_icmp_ge (pc := 9) (tgt := 16) C h1 (ok 94 14) dX12_isPeriod_9 rfl (fun c2 => ?_) (fun c2 => ?_)
    · have hF := (if_pos c2).symm.trans hF
      refine at_sub (lv' := []) [] rfl ?_
      exact J16  hF
    · have hF := (if_neg c2).symm.trans hF
      refine at_iconst (pc := 12) C dX12_isPeriod_12 ?_
      refine at_goto (pc := 13) (tgt := 17) C dX12_isPeriod_13 rfl ?_
      obtain rfl := Option.some.inj hF
      exact at_zret (pc := 17) C hr hlk (Or.inr rfl) ok dX12_isPeriod_17
abbrev rm_X12_isDay : Room := { frames := 0, cells := 0, slots := 0, locals := 0 }
def F_X12_isDay_J15 (N : Nat)   (σ : Sto) : Option (Int) :=
  some 0
def F_X12_isDay (N : Nat) (v0 : Int) (σ : Sto) : Option (Int) :=
  if v0 < 0 then (F_X12_isDay_J15 N   σ) else (if 1000 ≤ v0 then (F_X12_isDay_J15 N   σ) else (some 1))
set_option maxHeartbeats 4000000 in
set_option maxRecDepth 100000 in
theorem c_X12_isDay (l : Launch) (g : Geo) (N : Nat) (v0 : Int) (σ : Sto) (res : Int) (h0 : inR v0) (ok : OK σ) (hF : F_X12_isDay N v0 σ = some res) : MtI l g yX12_isDay cX12_isDay 1 (some .boolean) rm_X12_isDay [vi v0] σ res σ isB := by
  intro sz
  refine Met.ofAt (own := RX12) (QQ := fun z => QI g z res σ isB) (by decide +kernel) (Nat.le_of_ble_eq_true rfl) rfl ?_
  intro p e s m args below meth c C hr hlk
  show At p l e rm_X12_isDay s m args below meth c 0 0 g 1 (MQ below (QI g s.heap.size res σ isB) args s 0 0 (AA g s.heap.size)) 0 [(0, vi v0)] [] σ
  unfold F_X12_isDay at hF
  have J15 : F_X12_isDay_J15 N   σ = some res → At p l e rm_X12_isDay s m args below meth c 0 0 g 1 (MQ below (QI g s.heap.size res σ isB) args s 0 0 (AA g s.heap.size)) 15 [] [] σ := by
    intro   hF
    unfold F_X12_isDay_J15 at hF
    refine at_iconst (pc := 15) C dX12_isDay_15 ?_
    obtain rfl := Option.some.inj hF
    exact at_zret (pc := 16) C hr hlk (Or.inl rfl) ok dX12_isDay_16
  refine at_iload_n (pc := 0) C 0 dX12_isDay_0 rfl rfl ?_
  refine at_if_lt (pc := 1) (tgt := 15) C h0 dX12_isDay_1 rfl (fun c1 => ?_) (fun c1 => ?_)
  · have hF := (if_pos c1).symm.trans hF
    refine at_sub (lv' := []) [] rfl ?_
    exact J15  hF
  · have hF := (if_neg c1).symm.trans hF
    refine at_iload_n (pc := 4) C 0 dX12_isDay_4 rfl rfl ?_
    refine at_sipush (pc := 5) C dX12_isDay_5 (by decide) ?_
    refine at_icmp_ge (pc := 8) (tgt := 15) C h0 (show inR 1000 from ⟨by decide, by decide⟩) dX12_isDay_8 rfl (fun c2 => ?_) (fun c2 => ?_)
    · have hF := (if_pos c2).symm.trans hF
      refine at_sub (lv' := []) [] rfl ?_
      exact J15  hF
    · have hF := (if_neg c2).symm.trans hF
      refine at_iconst (pc := 11) C dX12_isDay_11 ?_
      refine at_goto (pc := 12) (tgt := 16) C dX12_isDay_12 rfl ?_
      obtain rfl := Option.some.inj hF
      exact at_zret (pc := 16) C hr hlk (Or.inr rfl) ok dX12_isDay_16
abbrev rm_X12_memberOf : Room := { frames := 0, cells := 0, slots := 0, locals := 0 }
def F_X12_memberOf (N : Nat) (v1 : Int) (σ : Sto) : Option (Int) :=
  inb (jm 4 v1) 96 (some (σ.1 98 (jm 4 v1)))
set_option maxHeartbeats 4000000 in
set_option maxRecDepth 100000 in
theorem c_X12_memberOf (l : Launch) (g : Geo) (N : Nat) (v1 : Int) (σ : Sto) (res : Int) (h1 : inR v1) (ok : OK σ) (hF : F_X12_memberOf N v1 σ = some res) : MtI l g yX12_memberOf cX12_memberOf 2 (some .int) rm_X12_memberOf [vr g 94, vi v1] σ res σ inR := by
  intro sz
  refine Met.ofAt (own := RX12) (QQ := fun z => QI g z res σ inR) (by decide +kernel) (Nat.le_of_ble_eq_true rfl) rfl ?_
  intro p e s m args below meth c C hr hlk
  show At p l e rm_X12_memberOf s m args below meth c 0 0 g 2 (MQ below (QI g s.heap.size res σ inR) args s 0 0 (AA g s.heap.size)) 0 [(0, vr g 94), (1, vi v1)] [] σ
  unfold F_X12_memberOf at hF
  refine at_aload_n (pc := 0) C 0 dX12_memberOf_0 rfl rfl ?_
  refine at_getr (pc := 1) (k' := 98) C 4 fw_12_23 kd94 rfl (Nat.le_of_ble_eq_true rfl) rfl rfl dX12_memberOf_1 ?_
  refine at_iconst (pc := 4) C dX12_memberOf_4 ?_
  refine at_iload_n (pc := 5) C 1 dX12_memberOf_5 rfl rfl ?_
  refine at_imul (pc := 6) C dX12_memberOf_6 ?_
  obtain ⟨b1, hF⟩ := inb_some hF
  refine at_iaload (pc := 7) C kd98 b1 dX12_memberOf_7 ?_
  obtain rfl := Option.some.inj hF
  exact at_iret (pc := 8) C hr hlk (ok 98 (jm 4 v1)) ok dX12_memberOf_8
abbrev rm_X12_result : Room := { frames := 1, cells := 0, slots := 0, locals := 21 }
def F_X12_result (N : Nat) (v1 : Int) (σ : Sto) : Option (Int) :=
  (F_X12_of N (ja 91 v1) σ).bind (fun q1 => some q1)
set_option maxHeartbeats 4000000 in
set_option maxRecDepth 100000 in
theorem c_X12_result (l : Launch) (g : Geo) (N : Nat) (v1 : Int) (σ : Sto) (res : Int) (h1 : inR v1) (ok : OK σ) (hF : F_X12_result N v1 σ = some res) : MtI l g yX12_result cX12_result 2 (some .int) rm_X12_result [vr g 94, vi v1] σ res σ inR := by
  intro sz
  refine Met.ofAt (own := RX12) (QQ := fun z => QI g z res σ inR) (by decide +kernel) (Nat.le_of_ble_eq_true rfl) rfl ?_
  intro p e s m args below meth c C hr hlk
  show At p l e rm_X12_result s m args below meth c 0 0 g 2 (MQ below (QI g s.heap.size res σ inR) args s 0 0 (AA g s.heap.size)) 0 [(0, vr g 94), (1, vi v1)] [] σ
  unfold F_X12_result at hF
  refine at_aload_n (pc := 0) C 0 dX12_result_0 rfl rfl ?_
  refine at_bipush (pc := 1) C dX12_result_1 (by decide) ?_
  refine at_iload_n (pc := 3) C 1 dX12_result_3 rfl rfl ?_
  refine at_iadd (pc := 4) C dX12_result_4 ?_
  obtain ⟨q1, eq1, hF⟩ := bind_some' hF
  refine at_callV (pc := 5) (ci := 12) C (c_X12_of l g N (ja 91 v1) σ q1 (ja_R 91 v1) ok eq1) kv_X12_of w1565 kd94 rfl rfl rfl rfl (Nat.le_of_ble_eq_true rfl) ⟨rfl, rfl, (Nat.le_of_ble_eq_true rfl), (Nat.le_of_ble_eq_true rfl)⟩ dX12_result_5 (fun tq1 okq1 => ?_)
  obtain rfl := Option.some.inj hF
  exact at_iret (pc := 8) C hr hlk tq1 ok dX12_result_8
abbrev rm_X12_percentOf : Room := { frames := 1, cells := 0, slots := 0, locals := 21 }
def F_X12_percentOf_J102 (N : Nat)  (v4 : Int) (σ : Sto) : Option (Int) :=
  if 0 ≤ v4 then ((F_X12_of N (ja (ja 104 (jm 4 v4)) 2) σ).bind (fun q2 => some q2)) else (some 0)
def F_X12_percentOf_J96 (N : Nat) (nx6 : (Int × Int) → Option (Int)) (v1 : Int) (v2 : Int) (v3 : Int) (v4 : Int) (v5 : Int) (σ : Sto) : Option (Int) :=
  nx6 (v4, (ja v5 1))
def F_X12_percentOf_J92 (N : Nat) (nx6 : (Int × Int) → Option (Int)) (v1 : Int) (v2 : Int) (v3 : Int) (v5 : Int) (σ : Sto) : Option (Int) :=
  F_X12_percentOf_J96 N nx6 v1 v2 v3 v5 v5 σ
def F_X12_percentOf_B6 (N : Nat) (nx6 : (Int × Int) → Option (Int)) (v1 : Int) (v2 : Int) (v3 : Int) (v4 : Int) (v5 : Int) (σ : Sto) : Option (Int) :=
  (F_X12_of N 103 σ).bind (fun q3 => if q3 ≤ v5 then (F_X12_percentOf_J102 N  v4 σ) else ((F_X12_of N (ja 104 (jm 4 v5)) σ).bind (fun q5 => if q5 = v1 then ((F_X12_of N (ja (ja 104 (jm 4 v5)) 1) σ).bind (fun q7 => if q7 = v2 then ((F_X12_of N (ja (ja 104 (jm 4 v5)) 3) σ).bind (fun q9 => if q9 ≤ v3 then (if v4 < 0 then (F_X12_percentOf_J92 N nx6 v1 v2 v3 v5 σ) else ((F_X12_of N (ja (ja 104 (jm 4 v5)) 3) σ).bind (fun q12 => (F_X12_of N (ja (ja 104 (jm 4 v4)) 3) σ).bind (fun q13 => if q12 < q13 then (F_X12_percentOf_J96 N nx6 v1 v2 v3 v4 v5 σ) else (F_X12_percentOf_J92 N nx6 v1 v2 v3 v5 σ))))) else (F_X12_percentOf_J96 N nx6 v1 v2 v3 v4 v5 σ))) else (F_X12_percentOf_J96 N nx6 v1 v2 v3 v4 v5 σ))) else (F_X12_percentOf_J96 N nx6 v1 v2 v3 v4 v5 σ))))
def F_X12_percentOf (N : Nat) (v1 : Int) (v2 : Int) (v3 : Int) (σ : Sto) : Option (Int) :=
  loopK (fun q nx6 => F_X12_percentOf_B6 N  nx6 v1 v2 v3 q.1 q.2 σ) N ((-1), 0)
set_option maxHeartbeats 4000000 in
set_option maxRecDepth 100000 in
theorem c_X12_percentOf (l : Launch) (g : Geo) (N : Nat) (v1 : Int) (v2 : Int) (v3 : Int) (σ : Sto) (res : Int) (h1 : inR v1) (h2 : inR v2) (h3 : inR v3) (ok : OK σ) (hF : F_X12_percentOf N v1 v2 v3 σ = some res) : MtI l g yX12_percentOf cX12_percentOf 7 (some .int) rm_X12_percentOf [vr g 94, vi v1, vi v2, vi v3] σ res σ inR := by
  intro sz
  refine Met.ofAt (own := RX12) (QQ := fun z => QI g z res σ inR) (by decide +kernel) (Nat.le_of_ble_eq_true rfl) rfl ?_
  intro p e s m args below meth c C hr hlk
  show At p l e rm_X12_percentOf s m args below meth c 0 0 g 7 (MQ below (QI g s.heap.size res σ inR) args s 0 0 (AA g s.heap.size)) 0 [(0, vr g 94), (1, vi v1), (2, vi v2), (3, vi v3)] [] σ
  unfold F_X12_percentOf at hF
  refine at_iconst (pc := 0) C dX12_percentOf_0 ?_
  refine at_istore (pc := 1) (lv' := [(4, vi (-1)), (0, vr g 94), (1, vi v1), (2, vi v2), (3, vi v3)]) C dX12_percentOf_1 (Nat.le_of_ble_eq_true rfl) rfl ?_
  refine at_iconst (pc := 3) C dX12_percentOf_3 ?_
  refine at_istore (pc := 4) (lv' := [(5, vi 0), (4, vi (-1)), (0, vr g 94), (1, vi v1), (2, vi v2), (3, vi v3)]) C dX12_percentOf_4 (Nat.le_of_ble_eq_true rfl) rfl ?_
  have L6 : ∀ (v1 : Int) (v2 : Int) (v3 : Int) (v4 : Int) (v5 : Int), inR v1 → inR v2 → inR v3 → inR v4 → inR v5 → loopK (fun q nx6 => F_X12_percentOf_B6 N  nx6 v1 v2 v3 q.1 q.2 σ) N (v4, v5) = some res → At p l e rm_X12_percentOf s m args below meth c 0 0 g 7 (MQ below (QI g s.heap.size res σ inR) args s 0 0 (AA g s.heap.size)) 6 [(0, vr g 94), (1, vi v1), (2, vi v2), (3, vi v3), (4, vi v4), (5, vi v5)] [] σ := by
    intro v1 v2 v3 v4 v5 h1 h2 h3 h4 h5 hF
    refine loopK_ind (res := res) (P := fun (q : Int × Int) => inR q.1 → inR q.2 → At p l e rm_X12_percentOf s m args below meth c 0 0 g 7 (MQ below (QI g s.heap.size res σ inR) args s 0 0 (AA g s.heap.size)) 6 [(0, vr g 94), (1, vi v1), (2, vi v2), (3, vi v3), (4, vi q.1), (5, vi q.2)] [] σ) ?_ N _ hF h4 h5
    intro nx6 q ih6 hF
    obtain ⟨v4, v5⟩ := q
    intro h4 h5
    have hF : F_X12_percentOf_B6 N  nx6 v1 v2 v3 v4 v5 σ = some res := hF
    unfold F_X12_percentOf_B6 at hF
    have J102 : ∀ (v4 : Int), inR v4 → F_X12_percentOf_J102 N  v4 σ = some res → At p l e rm_X12_percentOf s m args below meth c 0 0 g 7 (MQ below (QI g s.heap.size res σ inR) args s 0 0 (AA g s.heap.size)) 102 [(0, vr g 94), (4, vi v4)] [] σ := by
      intro v4 h4 hF
      unfold F_X12_percentOf_J102 at hF
      refine at_iload (pc := 102) C 1 dX12_percentOf_102 rfl ?_
      refine at_if_ge (pc := 104) (tgt := 111) C h4 dX12_percentOf_104 rfl (fun c1 => ?_) (fun c1 => ?_)
      · have hF := (if_pos c1).symm.trans hF
        refine at_aload_n (pc := 111) C 0 dX12_percentOf_111 rfl rfl ?_
        refine at_bipush (pc := 112) C dX12_percentOf_112 (by decide) ?_
        refine at_iconst (pc := 114) C dX12_percentOf_114 ?_
        refine at_iload (pc := 115) C 1 dX12_percentOf_115 rfl ?_
        refine at_imul (pc := 117) C dX12_percentOf_117 ?_
        refine at_iadd (pc := 118) C dX12_percentOf_118 ?_
        refine at_iconst (pc := 119) C dX12_percentOf_119 ?_
        refine at_iadd (pc := 120) C dX12_percentOf_120 ?_
        obtain ⟨q2, eq2, hF⟩ := bind_some' hF
        refine at_callV (pc := 121) (ci := 12) C (c_X12_of l g N (ja (ja 104 (jm 4 v4)) 2) σ q2 (ja_R (ja 104 (jm 4 v4)) 2) ok eq2) kv_X12_of w1565 kd94 rfl rfl rfl rfl (Nat.le_of_ble_eq_true rfl) ⟨rfl, rfl, (Nat.le_of_ble_eq_true rfl), (Nat.le_of_ble_eq_true rfl)⟩ dX12_percentOf_121 (fun tq2 okq2 => ?_)
        obtain rfl := Option.some.inj hF
        exact at_iret (pc := 124) C hr hlk tq2 ok dX12_percentOf_124
      · have hF := (if_neg c1).symm.trans hF
        refine at_iconst (pc := 107) C dX12_percentOf_107 ?_
        refine at_goto (pc := 108) (tgt := 124) C dX12_percentOf_108 rfl ?_
        obtain rfl := Option.some.inj hF
        exact at_iret (pc := 124) C hr hlk (isB.r (Or.inl rfl)) ok dX12_percentOf_124
    refine at_iload (pc := 6) C 5 dX12_percentOf_6 rfl ?_
    refine at_aload_n (pc := 8) C 0 dX12_percentOf_8 rfl rfl ?_
    refine at_bipush (pc := 9) C dX12_percentOf_9 (by decide) ?_
    obtain ⟨q3, eq3, hF⟩ := bind_some' hF
    refine at_callV (pc := 11) (ci := 12) C (c_X12_of l g N 103 σ q3 (show inR 103 from ⟨by decide, by decide⟩) ok eq3) kv_X12_of w1565 kd94 rfl rfl rfl rfl (Nat.le_of_ble_eq_true rfl) ⟨rfl, rfl, (Nat.le_of_ble_eq_true rfl), (Nat.le_of_ble_eq_true rfl)⟩ dX12_percentOf_11 (fun tq3 okq3 => ?_)
    refine at_icmp_ge (pc := 14) (tgt := 102) C h5 tq3 dX12_percentOf_14 rfl (fun c4 => ?_) (fun c4 => ?_)
    · have hF := (if_pos c4).symm.trans hF
      refine at_sub (lv' := [(0, vr g 94), (4, vi v4)]) [0, 4] rfl ?_
      exact J102 v4 h4 hF
    · have hF := (if_neg c4).symm.trans hF
      have J96 : ∀ (v4 : Int) (v5 : Int), inR v4 → inR v5 → F_X12_percentOf_J96 N nx6 v1 v2 v3 v4 v5 σ = some res → At p l e rm_X12_percentOf s m args below meth c 0 0 g 7 (MQ below (QI g s.heap.size res σ inR) args s 0 0 (AA g s.heap.size)) 96 [(0, vr g 94), (1, vi v1), (2, vi v2), (3, vi v3), (4, vi v4), (5, vi v5)] [] σ := by
        intro v4 v5 h4 h5 hF
        unfold F_X12_percentOf_J96 at hF
        refine at_iinc (pc := 96) (lv' := [(5, vi (ja v5 1)), (0, vr g 94), (1, vi v1), (2, vi v2), (3, vi v3), (4, vi v4)]) C 5 dX12_percentOf_96 rfl (Nat.le_of_ble_eq_true rfl) rfl ?_
        refine at_goto (pc := 99) (tgt := 6) C dX12_percentOf_99 rfl ?_
        refine at_sub (lv' := [(0, vr g 94), (1, vi v1), (2, vi v2), (3, vi v3), (4, vi v4), (5, vi (ja v5 1))]) [1, 2, 3, 4, 5, 0] rfl ?_
        exact ih6 _ hF h4 (ja_R v5 1)
      refine at_bipush (pc := 17) C dX12_percentOf_17 (by decide) ?_
      refine at_iconst (pc := 19) C dX12_percentOf_19 ?_
      refine at_iload (pc := 20) C 5 dX12_percentOf_20 rfl ?_
      refine at_imul (pc := 22) C dX12_percentOf_22 ?_
      refine at_iadd (pc := 23) C dX12_percentOf_23 ?_
      refine at_istore (pc := 24) (lv' := [(6, vi (ja 104 (jm 4 v5))), (0, vr g 94), (1, vi v1), (2, vi v2), (3, vi v3), (4, vi v4), (5, vi v5)]) C dX12_percentOf_24 (Nat.le_of_ble_eq_true rfl) rfl ?_
      refine at_aload_n (pc := 26) C 1 dX12_percentOf_26 rfl rfl ?_
      refine at_iload (pc := 27) C 0 dX12_percentOf_27 rfl ?_
      obtain ⟨q5, eq5, hF⟩ := bind_some' hF
      refine at_callV (pc := 29) (ci := 12) C (c_X12_of l g N (ja 104 (jm 4 v5)) σ q5 (ja_R 104 (jm 4 v5)) ok eq5) kv_X12_of w1565 kd94 rfl rfl rfl rfl (Nat.le_of_ble_eq_true rfl) ⟨rfl, rfl, (Nat.le_of_ble_eq_true rfl), (Nat.le_of_ble_eq_true rfl)⟩ dX12_percentOf_29 (fun tq5 okq5 => ?_)
      refine at_iload_n (pc := 32) C 2 dX12_percentOf_32 rfl rfl ?_
      refine at_icmp_ne (pc := 33) (tgt := 96) C tq5 h1 dX12_percentOf_33 rfl (fun c6 => ?_) (fun c6 => ?_)
      · have hF := (if_neg c6).symm.trans hF
        refine at_sub (lv' := [(0, vr g 94), (1, vi v1), (2, vi v2), (3, vi v3), (4, vi v4), (5, vi v5)]) [1, 2, 3, 4, 5, 6] rfl ?_
        exact J96 v4 v5 h4 h5 hF
      · have hF := (if_pos c6).symm.trans hF
        refine at_aload_n (pc := 36) C 1 dX12_percentOf_36 rfl rfl ?_
        refine at_iload (pc := 37) C 0 dX12_percentOf_37 rfl ?_
        refine at_iconst (pc := 39) C dX12_percentOf_39 ?_
        refine at_iadd (pc := 40) C dX12_percentOf_40 ?_
        obtain ⟨q7, eq7, hF⟩ := bind_some' hF
        refine at_callV (pc := 41) (ci := 12) C (c_X12_of l g N (ja (ja 104 (jm 4 v5)) 1) σ q7 (ja_R (ja 104 (jm 4 v5)) 1) ok eq7) kv_X12_of w1565 kd94 rfl rfl rfl rfl (Nat.le_of_ble_eq_true rfl) ⟨rfl, rfl, (Nat.le_of_ble_eq_true rfl), (Nat.le_of_ble_eq_true rfl)⟩ dX12_percentOf_41 (fun tq7 okq7 => ?_)
        refine at_iload_n (pc := 44) C 3 dX12_percentOf_44 rfl rfl ?_
        refine at_icmp_ne (pc := 45) (tgt := 96) C tq7 h2 dX12_percentOf_45 rfl (fun c8 => ?_) (fun c8 => ?_)
        · have hF := (if_neg c8).symm.trans hF
          refine at_sub (lv' := [(0, vr g 94), (1, vi v1), (2, vi v2), (3, vi v3), (4, vi v4), (5, vi v5)]) [1, 2, 3, 4, 5, 6] rfl ?_
          exact J96 v4 v5 h4 h5 hF
        · have hF := (if_pos c8).symm.trans hF
          refine at_aload_n (pc := 48) C 1 dX12_percentOf_48 rfl rfl ?_
          refine at_iload (pc := 49) C 0 dX12_percentOf_49 rfl ?_
          refine at_iconst (pc := 51) C dX12_percentOf_51 ?_
          refine at_iadd (pc := 52) C dX12_percentOf_52 ?_
          obtain ⟨q9, eq9, hF⟩ := bind_some' hF
          refine at_callV (pc := 53) (ci := 12) C (c_X12_of l g N (ja (ja 104 (jm 4 v5)) 3) σ q9 (ja_R (ja 104 (jm 4 v5)) 3) ok eq9) kv_X12_of w1565 kd94 rfl rfl rfl rfl (Nat.le_of_ble_eq_true rfl) ⟨rfl, rfl, (Nat.le_of_ble_eq_true rfl), (Nat.le_of_ble_eq_true rfl)⟩ dX12_percentOf_53 (fun tq9 okq9 => ?_)
          refine at_iload_n (pc := 56) C 4 dX12_percentOf_56 rfl rfl ?_
          refine at_icmp_le (pc := 57) (tgt := 63) C tq9 h3 dX12_percentOf_57 rfl (fun c10 => ?_) (fun c10 => ?_)
          · have hF := (if_pos c10).symm.trans hF
            have J92 : ∀ (v5 : Int), inR v5 → F_X12_percentOf_J92 N nx6 v1 v2 v3 v5 σ = some res → At p l e rm_X12_percentOf s m args below meth c 0 0 g 7 (MQ below (QI g s.heap.size res σ inR) args s 0 0 (AA g s.heap.size)) 92 [(0, vr g 94), (1, vi v1), (2, vi v2), (3, vi v3), (5, vi v5)] [] σ := by
              intro v5 h5 hF
              unfold F_X12_percentOf_J92 at hF
              refine at_iload (pc := 92) C 4 dX12_percentOf_92 rfl ?_
              refine at_istore (pc := 94) (lv' := [(4, vi v5), (0, vr g 94), (1, vi v1), (2, vi v2), (3, vi v3), (5, vi v5)]) C dX12_percentOf_94 (Nat.le_of_ble_eq_true rfl) rfl ?_
              refine at_sub (lv' := [(0, vr g 94), (1, vi v1), (2, vi v2), (3, vi v3), (4, vi v5), (5, vi v5)]) [1, 2, 3, 4, 0, 5] rfl ?_
              exact J96 v5 v5 h5 h5 hF
            refine at_iload (pc := 63) C 5 dX12_percentOf_63 rfl ?_
            refine at_if_lt (pc := 65) (tgt := 92) C h4 dX12_percentOf_65 rfl (fun c11 => ?_) (fun c11 => ?_)
            · have hF := (if_pos c11).symm.trans hF
              refine at_sub (lv' := [(0, vr g 94), (1, vi v1), (2, vi v2), (3, vi v3), (5, vi v5)]) [1, 2, 3, 4, 6] rfl ?_
              exact J92 v5 h5 hF
            · have hF := (if_neg c11).symm.trans hF
              refine at_aload_n (pc := 68) C 1 dX12_percentOf_68 rfl rfl ?_
              refine at_iload (pc := 69) C 0 dX12_percentOf_69 rfl ?_
              refine at_iconst (pc := 71) C dX12_percentOf_71 ?_
              refine at_iadd (pc := 72) C dX12_percentOf_72 ?_
              obtain ⟨q12, eq12, hF⟩ := bind_some' hF
              refine at_callV (pc := 73) (ci := 12) C (c_X12_of l g N (ja (ja 104 (jm 4 v5)) 3) σ q12 (ja_R (ja 104 (jm 4 v5)) 3) ok eq12) kv_X12_of w1565 kd94 rfl rfl rfl rfl (Nat.le_of_ble_eq_true rfl) ⟨rfl, rfl, (Nat.le_of_ble_eq_true rfl), (Nat.le_of_ble_eq_true rfl)⟩ dX12_percentOf_73 (fun tq12 okq12 => ?_)
              refine at_aload_n (pc := 76) C 1 dX12_percentOf_76 rfl rfl ?_
              refine at_bipush (pc := 77) C dX12_percentOf_77 (by decide) ?_
              refine at_iconst (pc := 79) C dX12_percentOf_79 ?_
              refine at_iload (pc := 80) C 5 dX12_percentOf_80 rfl ?_
              refine at_imul (pc := 82) C dX12_percentOf_82 ?_
              refine at_iadd (pc := 83) C dX12_percentOf_83 ?_
              refine at_iconst (pc := 84) C dX12_percentOf_84 ?_
              refine at_iadd (pc := 85) C dX12_percentOf_85 ?_
              obtain ⟨q13, eq13, hF⟩ := bind_some' hF
              refine at_callV (pc := 86) (ci := 12) C (c_X12_of l g N (ja (ja 104 (jm 4 v4)) 3) σ q13 (ja_R (ja 104 (jm 4 v4)) 3) ok eq13) kv_X12_of w1565 kd94 rfl rfl rfl rfl (Nat.le_of_ble_eq_true rfl) ⟨rfl, rfl, (Nat.le_of_ble_eq_true rfl), (Nat.le_of_ble_eq_true rfl)⟩ dX12_percentOf_86 (fun tq13 okq13 => ?_)
              refine at_icmp_lt (pc := 89) (tgt := 96) C tq12 tq13 dX12_percentOf_89 rfl (fun c14 => ?_) (fun c14 => ?_)
              · have hF := (if_pos c14).symm.trans hF
                refine at_sub (lv' := [(0, vr g 94), (1, vi v1), (2, vi v2), (3, vi v3), (4, vi v4), (5, vi v5)]) [1, 2, 3, 4, 5, 6] rfl ?_
                exact J96 v4 v5 h4 h5 hF
              · have hF := (if_neg c14).symm.trans hF
                refine at_sub (lv' := [(0, vr g 94), (1, vi v1), (2, vi v2), (3, vi v3), (5, vi v5)]) [1, 2, 3, 4, 6] rfl ?_
                exact J92 v5 h5 hF
          · have hF := (if_neg c10).symm.trans hF
            refine at_goto (pc := 60) (tgt := 96) C dX12_percentOf_60 rfl ?_
            refine at_sub (lv' := [(0, vr g 94), (1, vi v1), (2, vi v2), (3, vi v3), (4, vi v4), (5, vi v5)]) [1, 2, 3, 4, 5, 6] rfl ?_
            exact J96 v4 v5 h4 h5 hF
  refine at_sub (lv' := [(0, vr g 94), (1, vi v1), (2, vi v2), (3, vi v3), (4, vi (-1)), (5, vi 0)]) [2, 3, 4, 5, 1, 0] rfl ?_
  exact L6 v1 v2 v3 (-1) 0 h1 h2 h3 (show inR (-1) from ⟨by decide, by decide⟩) (isB.r (Or.inl rfl)) hF
abbrev rm_X12_laysShares : Room := { frames := 2, cells := 0, slots := 0, locals := 47 }
def F_X12_laysShares_J96 (N : Nat) (nx2 : (Int × Sto) → Option (Sto)) (v1 : Int) (v2 : Int) (σ : Sto) : Option (Sto) :=
  nx2 ((ja v2 1), σ)
def F_X12_laysShares_J77 (N : Nat) (nx2 : (Int × Sto) → Option (Sto)) (nx12 : (Int × Sto) → Option (Sto)) (v1 : Int) (v2 : Int) (v3 : Int) (v4 : UInt32) (σ : Sto) : Option (Sto) :=
  inb (ja (jm 8 v2) v3) 64 (nx12 ((ja v3 1), (upF σ 102 (ja (jm 8 v2) v3) (v4.toNat : Int))))
def F_X12_laysShares_B35 (N : Nat) (nx2 : (Int × Sto) → Option (Sto)) (nx12 : (Int × Sto) → Option (Sto)) (nx35 : (UInt32 × Int) → Option (Sto)) (v1 : Int) (v2 : Int) (v3 : Int) (v4 : UInt32) (v5 : Int) (σ : Sto) : Option (Sto) :=
  if v3 ≤ v5 then (F_X12_laysShares_J77 N nx2 nx12 v1 v2 v3 v4 σ) else (inb (ja (jm 8 v2) v5) 64 ((F_X12_percentOf N v5 v3 v1 σ).bind (fun q6 => grd (vf_n32 (FP.fdiv (ji2f q6) 1120403456)) (dn32 _) (grd (vf_n32 (FP.fmul (fb (σ.2 102 (ja (jm 8 v2) v5))) (FP.fdiv (ji2f q6) 1120403456))) (dn32 _) (grd (vf_n32 (FP.fadd v4 (FP.fmul (fb (σ.2 102 (ja (jm 8 v2) v5))) (FP.fdiv (ji2f q6) 1120403456)))) (dn32 _) (nx35 ((FP.fadd v4 (FP.fmul (fb (σ.2 102 (ja (jm 8 v2) v5))) (FP.fdiv (ji2f q6) 1120403456))), (ja v5 1))))))))
def F_X12_laysShares_J30 (N : Nat) (nx2 : (Int × Sto) → Option (Sto)) (nx12 : (Int × Sto) → Option (Sto)) (v1 : Int) (v2 : Int) (v3 : Int) (t0 : UInt32) (σ : Sto) : Option (Sto) :=
  loopK (fun q nx35 => F_X12_laysShares_B35 N nx2 nx12 nx35 v1 v2 v3 q.1 q.2 σ) N (t0, v2)
def F_X12_laysShares_B12 (N : Nat) (nx2 : (Int × Sto) → Option (Sto)) (nx12 : (Int × Sto) → Option (Sto)) (v1 : Int) (v2 : Int) (v3 : Int) (σ : Sto) : Option (Sto) :=
  if (σ.1 94 11) ≤ v3 then (F_X12_laysShares_J96 N nx2 v1 v2 σ) else (if v2 = v3 then (F_X12_laysShares_J30 N nx2 nx12 v1 v2 v3 FP.fconst1 σ) else (F_X12_laysShares_J30 N nx2 nx12 v1 v2 v3 FP.fconst0 σ))
def F_X12_laysShares_B2 (N : Nat) (nx2 : (Int × Sto) → Option (Sto)) (v1 : Int) (v2 : Int) (σ : Sto) : Option (Sto) :=
  if (σ.1 94 11) ≤ v2 then (some σ) else (loopK (fun q nx12 => F_X12_laysShares_B12 N nx2 nx12 v1 v2 q.1 q.2) N (0, σ))
def F_X12_laysShares (N : Nat) (v1 : Int) (σ : Sto) : Option (Sto) :=
  loopK (fun q nx2 => F_X12_laysShares_B2 N  nx2 v1 q.1 q.2) N (0, σ)
set_option maxHeartbeats 4000000 in
set_option maxRecDepth 100000 in
theorem c_X12_laysShares (l : Launch) (g : Geo) (N : Nat) (v1 : Int) (σ : Sto) (res : Sto) (h1 : inR v1) (ok : OK σ) (hF : F_X12_laysShares N v1 σ = some res) : MtV l g yX12_laysShares cX12_laysShares 6 none rm_X12_laysShares [vr g 94, vi v1] σ res := by
  intro sz
  refine Met.ofAt (own := RX12) (QQ := fun z => QV g z res) (by decide +kernel) (Nat.le_of_ble_eq_true rfl) rfl ?_
  intro p e s m args below meth c C hr hlk
  show At p l e rm_X12_laysShares s m args below meth c 0 0 g 6 (MQ below (QV g s.heap.size res) args s 0 0 (AA g s.heap.size)) 0 [(0, vr g 94), (1, vi v1)] [] σ
  unfold F_X12_laysShares at hF
  refine at_iconst (pc := 0) C dX12_laysShares_0 ?_
  refine at_istore_n (pc := 1) (lv' := [(2, vi 0), (0, vr g 94), (1, vi v1)]) C dX12_laysShares_1 rfl (Nat.le_of_ble_eq_true rfl) rfl ?_
  have L2 : ∀ (v1 : Int) (v2 : Int) (σ : Sto), inR v1 → inR v2 → OK σ → loopK (fun q nx2 => F_X12_laysShares_B2 N  nx2 v1 q.1 q.2) N (v2, σ) = some res → At p l e rm_X12_laysShares s m args below meth c 0 0 g 6 (MQ below (QV g s.heap.size res) args s 0 0 (AA g s.heap.size)) 2 [(0, vr g 94), (1, vi v1), (2, vi v2)] [] σ := by
    intro v1 v2 σ h1 h2 ok hF
    refine loopK_ind (res := res) (P := fun (q : Int × Sto) => inR q.1 → OK q.2 → At p l e rm_X12_laysShares s m args below meth c 0 0 g 6 (MQ below (QV g s.heap.size res) args s 0 0 (AA g s.heap.size)) 2 [(0, vr g 94), (1, vi v1), (2, vi q.1)] [] q.2) ?_ N _ hF h2 ok
    intro nx2 q ih2 hF
    obtain ⟨v2, σ⟩ := q
    intro h2 ok
    have hF : F_X12_laysShares_B2 N  nx2 v1 v2 σ = some res := hF
    unfold F_X12_laysShares_B2 at hF
    refine at_iload_n (pc := 2) C 2 dX12_laysShares_2 rfl rfl ?_
    refine at_aload_n (pc := 3) C 0 dX12_laysShares_3 rfl rfl ?_
    refine at_geti (pc := 4) (jz := 11) C fw_12_132 kd94 rfl (Nat.le_of_ble_eq_true rfl) rfl rfl dX12_laysShares_4 ?_
    refine at_icmp_ge (pc := 7) (tgt := 102) C h2 (ok 94 11) dX12_laysShares_7 rfl (fun c1 => ?_) (fun c1 => ?_)
    · have hF := (if_pos c1).symm.trans hF
      obtain rfl := Option.some.inj hF
      exact at_vret (pc := 102) C hr hlk ok dX12_laysShares_102
    · have hF := (if_neg c1).symm.trans hF
      refine at_iconst (pc := 10) C dX12_laysShares_10 ?_
      refine at_istore_n (pc := 11) (lv' := [(3, vi 0), (0, vr g 94), (1, vi v1), (2, vi v2)]) C dX12_laysShares_11 rfl (Nat.le_of_ble_eq_true rfl) rfl ?_
      have L12 : ∀ (v2 : Int) (v3 : Int) (σ : Sto), inR v2 → inR v3 → OK σ → loopK (fun q nx12 => F_X12_laysShares_B12 N nx2 nx12 v1 v2 q.1 q.2) N (v3, σ) = some res → At p l e rm_X12_laysShares s m args below meth c 0 0 g 6 (MQ below (QV g s.heap.size res) args s 0 0 (AA g s.heap.size)) 12 [(0, vr g 94), (1, vi v1), (2, vi v2), (3, vi v3)] [] σ := by
        intro v2 v3 σ h2 h3 ok hF
        refine loopK_ind (res := res) (P := fun (q : Int × Sto) => inR q.1 → OK q.2 → At p l e rm_X12_laysShares s m args below meth c 0 0 g 6 (MQ below (QV g s.heap.size res) args s 0 0 (AA g s.heap.size)) 12 [(0, vr g 94), (1, vi v1), (2, vi v2), (3, vi q.1)] [] q.2) ?_ N _ hF h3 ok
        intro nx12 q ih12 hF
        obtain ⟨v3, σ⟩ := q
        intro h3 ok
        have hF : F_X12_laysShares_B12 N nx2 nx12 v1 v2 v3 σ = some res := hF
        unfold F_X12_laysShares_B12 at hF
        have J96 : ∀ (v2 : Int) (σ : Sto), inR v2 → OK σ → F_X12_laysShares_J96 N nx2 v1 v2 σ = some res → At p l e rm_X12_laysShares s m args below meth c 0 0 g 6 (MQ below (QV g s.heap.size res) args s 0 0 (AA g s.heap.size)) 96 [(0, vr g 94), (1, vi v1), (2, vi v2)] [] σ := by
          intro v2 σ h2 ok hF
          unfold F_X12_laysShares_J96 at hF
          refine at_iinc (pc := 96) (lv' := [(2, vi (ja v2 1)), (0, vr g 94), (1, vi v1)]) C 2 dX12_laysShares_96 rfl (Nat.le_of_ble_eq_true rfl) rfl ?_
          refine at_goto (pc := 99) (tgt := 2) C dX12_laysShares_99 rfl ?_
          refine at_sub (lv' := [(0, vr g 94), (1, vi v1), (2, vi (ja v2 1))]) [1, 2, 0] rfl ?_
          exact ih2 _ hF (ja_R v2 1) ok
        refine at_iload_n (pc := 12) C 3 dX12_laysShares_12 rfl rfl ?_
        refine at_aload_n (pc := 13) C 0 dX12_laysShares_13 rfl rfl ?_
        refine at_geti (pc := 14) (jz := 11) C fw_12_132 kd94 rfl (Nat.le_of_ble_eq_true rfl) rfl rfl dX12_laysShares_14 ?_
        refine at_icmp_ge (pc := 17) (tgt := 96) C h3 (ok 94 11) dX12_laysShares_17 rfl (fun c2 => ?_) (fun c2 => ?_)
        · have hF := (if_pos c2).symm.trans hF
          refine at_sub (lv' := [(0, vr g 94), (1, vi v1), (2, vi v2)]) [0, 1, 2] rfl ?_
          exact J96 v2 σ h2 ok hF
        · have hF := (if_neg c2).symm.trans hF
          have J30 : ∀ (v3 : Int) (t0 : UInt32) (σ : Sto), inR v3 → OK σ → F_X12_laysShares_J30 N nx2 nx12 v1 v2 v3 t0 σ = some res → At p l e rm_X12_laysShares s m args below meth c 0 0 g 6 (MQ below (QV g s.heap.size res) args s 0 0 (AA g s.heap.size)) 30 [(0, vr g 94), (1, vi v1), (2, vi v2), (3, vi v3)] [.float t0] σ := by
            intro v3 t0 σ h3 ok hF
            unfold F_X12_laysShares_J30 at hF
            refine at_fstore (pc := 30) (lv' := [(4, .float t0), (0, vr g 94), (1, vi v1), (2, vi v2), (3, vi v3)]) C dX12_laysShares_30 (Nat.le_of_ble_eq_true rfl) rfl ?_
            refine at_iload_n (pc := 32) C 3 dX12_laysShares_32 rfl rfl ?_
            refine at_istore (pc := 33) (lv' := [(5, vi v2), (4, .float t0), (0, vr g 94), (1, vi v1), (2, vi v2), (3, vi v3)]) C dX12_laysShares_33 (Nat.le_of_ble_eq_true rfl) rfl ?_
            have L35 : ∀ (v3 : Int) (v4 : UInt32) (v5 : Int) (σ : Sto), inR v3 → inR v5 → OK σ → loopK (fun q nx35 => F_X12_laysShares_B35 N nx2 nx12 nx35 v1 v2 v3 q.1 q.2 σ) N (v4, v5) = some res → At p l e rm_X12_laysShares s m args below meth c 0 0 g 6 (MQ below (QV g s.heap.size res) args s 0 0 (AA g s.heap.size)) 35 [(0, vr g 94), (1, vi v1), (2, vi v2), (3, vi v3), (4, .float v4), (5, vi v5)] [] σ := by
              intro v3 v4 v5 σ h3 h5 ok hF
              refine loopK_ind (res := res) (P := fun (q : UInt32 × Int) => inR q.2 → At p l e rm_X12_laysShares s m args below meth c 0 0 g 6 (MQ below (QV g s.heap.size res) args s 0 0 (AA g s.heap.size)) 35 [(0, vr g 94), (1, vi v1), (2, vi v2), (3, vi v3), (4, .float q.1), (5, vi q.2)] [] σ) ?_ N _ hF h5
              intro nx35 q ih35 hF
              obtain ⟨v4, v5⟩ := q
              intro h5
              have hF : F_X12_laysShares_B35 N nx2 nx12 nx35 v1 v2 v3 v4 v5 σ = some res := hF
              unfold F_X12_laysShares_B35 at hF
              have J77 : ∀ (v3 : Int) (v4 : UInt32) (σ : Sto), inR v3 → OK σ → F_X12_laysShares_J77 N nx2 nx12 v1 v2 v3 v4 σ = some res → At p l e rm_X12_laysShares s m args below meth c 0 0 g 6 (MQ below (QV g s.heap.size res) args s 0 0 (AA g s.heap.size)) 77 [(0, vr g 94), (1, vi v1), (2, vi v2), (3, vi v3), (4, .float v4)] [] σ := by
                intro v3 v4 σ h3 ok hF
                unfold F_X12_laysShares_J77 at hF
                refine at_aload_n (pc := 77) C 0 dX12_laysShares_77 rfl rfl ?_
                refine at_getr (pc := 78) (k' := 102) C 8 fw_12_35 kd94 rfl (Nat.le_of_ble_eq_true rfl) rfl rfl dX12_laysShares_78 ?_
                refine at_bipush (pc := 81) C dX12_laysShares_81 (by decide) ?_
                refine at_iload_n (pc := 83) C 2 dX12_laysShares_83 rfl rfl ?_
                refine at_imul (pc := 84) C dX12_laysShares_84 ?_
                refine at_iload_n (pc := 85) C 3 dX12_laysShares_85 rfl rfl ?_
                refine at_iadd (pc := 86) C dX12_laysShares_86 ?_
                refine at_fload (pc := 87) C 4 dX12_laysShares_87 rfl ?_
                obtain ⟨b3, hF⟩ := inb_some hF
                refine at_fastore (pc := 89) C kd102 b3 dX12_laysShares_89 ?_
                refine at_iinc (pc := 90) (lv' := [(3, vi (ja v3 1)), (0, vr g 94), (1, vi v1), (2, vi v2), (4, .float v4)]) C 3 dX12_laysShares_90 rfl (Nat.le_of_ble_eq_true rfl) rfl ?_
                refine at_goto (pc := 93) (tgt := 12) C dX12_laysShares_93 rfl ?_
                refine at_sub (lv' := [(0, vr g 94), (1, vi v1), (2, vi v2), (3, vi (ja v3 1))]) [1, 2, 3, 0] rfl ?_
                exact ih12 _ hF (ja_R v3 1) (OK_uf (k := 102) (j := (ja (jm 8 v2) v3)) (v := (v4.toNat : Int)) ok)
              refine at_iload (pc := 35) C 5 dX12_laysShares_35 rfl ?_
              refine at_iload_n (pc := 37) C 3 dX12_laysShares_37 rfl rfl ?_
              refine at_icmp_ge (pc := 38) (tgt := 77) C h5 h3 dX12_laysShares_38 rfl (fun c4 => ?_) (fun c4 => ?_)
              · have hF := (if_pos c4).symm.trans hF
                refine at_sub (lv' := [(0, vr g 94), (1, vi v1), (2, vi v2), (3, vi v3), (4, .float v4)]) [0, 1, 2, 3, 4] rfl ?_
                exact J77 v3 v4 σ h3 ok hF
              · have hF := (if_neg c4).symm.trans hF
                refine at_fload (pc := 41) C 4 dX12_laysShares_41 rfl ?_
                refine at_aload_n (pc := 43) C 0 dX12_laysShares_43 rfl rfl ?_
                refine at_getr (pc := 44) (k' := 102) C 8 fw_12_35 kd94 rfl (Nat.le_of_ble_eq_true rfl) rfl rfl dX12_laysShares_44 ?_
                refine at_bipush (pc := 47) C dX12_laysShares_47 (by decide) ?_
                refine at_iload_n (pc := 49) C 2 dX12_laysShares_49 rfl rfl ?_
                refine at_imul (pc := 50) C dX12_laysShares_50 ?_
                refine at_iload (pc := 51) C 5 dX12_laysShares_51 rfl ?_
                refine at_iadd (pc := 53) C dX12_laysShares_53 ?_
                obtain ⟨b5, hF⟩ := inb_some hF
                refine at_faload (pc := 54) C kd102 b5 dX12_laysShares_54 ?_
                refine at_aload_n (pc := 55) C 0 dX12_laysShares_55 rfl rfl ?_
                refine at_iload (pc := 56) C 5 dX12_laysShares_56 rfl ?_
                refine at_iload_n (pc := 58) C 3 dX12_laysShares_58 rfl rfl ?_
                refine at_iload_n (pc := 59) C 1 dX12_laysShares_59 rfl rfl ?_
                obtain ⟨q6, eq6, hF⟩ := bind_some' hF
                refine at_callV (pc := 60) (ci := 12) C (c_X12_percentOf l g N v5 v3 v1 σ q6 h5 h3 h1 ok eq6) kv_X12_percentOf w1613 kd94 rfl rfl rfl rfl (Nat.le_of_ble_eq_true rfl) ⟨rfl, rfl, (Nat.le_of_ble_eq_true rfl), (Nat.le_of_ble_eq_true rfl)⟩ dX12_laysShares_60 (fun tq6 okq6 => ?_)
                refine at_i2f (pc := 63) C dX12_laysShares_63 ?_
                refine at_ldcf (pc := 64) C dX12_laysShares_64 w1617 ?_
                obtain ⟨n7, hF⟩ := grd_some hF
                refine at_fdiv (pc := 66) C dX12_laysShares_66 n7 ?_
                obtain ⟨n8, hF⟩ := grd_some hF
                refine at_fmul (pc := 67) C dX12_laysShares_67 n8 ?_
                obtain ⟨n9, hF⟩ := grd_some hF
                refine at_fadd (pc := 68) C dX12_laysShares_68 n9 ?_
                refine at_fstore (pc := 69) (lv' := [(4, .float (FP.fadd v4 (FP.fmul (fb (σ.2 102 (ja (jm 8 v2) v5))) (FP.fdiv (ji2f q6) 1120403456)))), (0, vr g 94), (1, vi v1), (2, vi v2), (3, vi v3), (5, vi v5)]) C dX12_laysShares_69 (Nat.le_of_ble_eq_true rfl) rfl ?_
                refine at_iinc (pc := 71) (lv' := [(5, vi (ja v5 1)), (4, .float (FP.fadd v4 (FP.fmul (fb (σ.2 102 (ja (jm 8 v2) v5))) (FP.fdiv (ji2f q6) 1120403456)))), (0, vr g 94), (1, vi v1), (2, vi v2), (3, vi v3)]) C 5 dX12_laysShares_71 rfl (Nat.le_of_ble_eq_true rfl) rfl ?_
                refine at_goto (pc := 74) (tgt := 35) C dX12_laysShares_74 rfl ?_
                refine at_sub (lv' := [(0, vr g 94), (1, vi v1), (2, vi v2), (3, vi v3), (4, .float (FP.fadd v4 (FP.fmul (fb (σ.2 102 (ja (jm 8 v2) v5))) (FP.fdiv (ji2f q6) 1120403456)))), (5, vi (ja v5 1))]) [2, 3, 4, 5, 1, 0] rfl ?_
                exact ih35 _ hF (ja_R v5 1)
            refine at_sub (lv' := [(0, vr g 94), (1, vi v1), (2, vi v2), (3, vi v3), (4, .float t0), (5, vi v2)]) [2, 3, 4, 5, 1, 0] rfl ?_
            exact L35 v3 t0 v2 σ h3 h2 ok hF
          refine at_iload_n (pc := 20) C 2 dX12_laysShares_20 rfl rfl ?_
          refine at_iload_n (pc := 21) C 3 dX12_laysShares_21 rfl rfl ?_
          refine at_icmp_ne (pc := 22) (tgt := 29) C h2 h3 dX12_laysShares_22 rfl (fun c10 => ?_) (fun c10 => ?_)
          · have hF := (if_neg c10).symm.trans hF
            refine at_fconst0 (pc := 29) C dX12_laysShares_29 ?_
            exact J30 v3 FP.fconst0 σ h3 ok hF
          · have hF := (if_pos c10).symm.trans hF
            refine at_fconst1 (pc := 25) C dX12_laysShares_25 ?_
            refine at_goto (pc := 26) (tgt := 30) C dX12_laysShares_26 rfl ?_
            exact J30 v3 FP.fconst1 σ h3 ok hF
      refine at_sub (lv' := [(0, vr g 94), (1, vi v1), (2, vi v2), (3, vi 0)]) [1, 2, 3, 0] rfl ?_
      exact L12 v2 0 σ h2 (isB.r (Or.inl rfl)) ok hF
  refine at_sub (lv' := [(0, vr g 94), (1, vi v1), (2, vi 0)]) [1, 2, 0] rfl ?_
  exact L2 v1 0 σ h1 (isB.r (Or.inl rfl)) ok hF
abbrev rm_X12_isControl : Room := { frames := 0, cells := 0, slots := 0, locals := 0 }
def F_X12_isControl_J29 (N : Nat)   (σ : Sto) : Option (Int) :=
  some 0
def F_X12_isControl (N : Nat) (v1 : Int) (v2 : Int) (v3 : Int) (σ : Sto) : Option (Int) :=
  if v2 ≤ v1 then (F_X12_isControl_J29 N   σ) else (inb (ja (jm 8 v1) v2) 64 (grd (vf_n32 (FP.fmul (fb (σ.2 102 (ja (jm 8 v1) v2))) 1120403456)) (dn32 _) (if (jfcmp (FP.fmul (fb (σ.2 102 (ja (jm 8 v1) v2))) 1120403456) (ji2f v3) .l) < 0 then (F_X12_isControl_J29 N   σ) else (some 1))))
set_option maxHeartbeats 4000000 in
set_option maxRecDepth 100000 in
theorem c_X12_isControl (l : Launch) (g : Geo) (N : Nat) (v1 : Int) (v2 : Int) (v3 : Int) (σ : Sto) (res : Int) (h1 : inR v1) (h2 : inR v2) (h3 : inR v3) (ok : OK σ) (hF : F_X12_isControl N v1 v2 v3 σ = some res) : MtI l g yX12_isControl cX12_isControl 4 (some .boolean) rm_X12_isControl [vr g 94, vi v1, vi v2, vi v3] σ res σ isB := by
  intro sz
  refine Met.ofAt (own := RX12) (QQ := fun z => QI g z res σ isB) (by decide +kernel) (Nat.le_of_ble_eq_true rfl) rfl ?_
  intro p e s m args below meth c C hr hlk
  show At p l e rm_X12_isControl s m args below meth c 0 0 g 4 (MQ below (QI g s.heap.size res σ isB) args s 0 0 (AA g s.heap.size)) 0 [(0, vr g 94), (1, vi v1), (2, vi v2), (3, vi v3)] [] σ
  unfold F_X12_isControl at hF
  have J29 : F_X12_isControl_J29 N   σ = some res → At p l e rm_X12_isControl s m args below meth c 0 0 g 4 (MQ below (QI g s.heap.size res σ isB) args s 0 0 (AA g s.heap.size)) 29 [] [] σ := by
    intro   hF
    unfold F_X12_isControl_J29 at hF
    refine at_iconst (pc := 29) C dX12_isControl_29 ?_
    obtain rfl := Option.some.inj hF
    exact at_zret (pc := 30) C hr hlk (Or.inl rfl) ok dX12_isControl_30
  refine at_iload_n (pc := 0) C 1 dX12_isControl_0 rfl rfl ?_
  refine at_iload_n (pc := 1) C 2 dX12_isControl_1 rfl rfl ?_
  refine at_icmp_ge (pc := 2) (tgt := 29) C h1 h2 dX12_isControl_2 rfl (fun c1 => ?_) (fun c1 => ?_)
  · have hF := (if_pos c1).symm.trans hF
    refine at_sub (lv' := []) [] rfl ?_
    exact J29  hF
  · have hF := (if_neg c1).symm.trans hF
    refine at_aload_n (pc := 5) C 0 dX12_isControl_5 rfl rfl ?_
    refine at_getr (pc := 6) (k' := 102) C 8 fw_12_35 kd94 rfl (Nat.le_of_ble_eq_true rfl) rfl rfl dX12_isControl_6 ?_
    refine at_bipush (pc := 9) C dX12_isControl_9 (by decide) ?_
    refine at_iload_n (pc := 11) C 1 dX12_isControl_11 rfl rfl ?_
    refine at_imul (pc := 12) C dX12_isControl_12 ?_
    refine at_iload_n (pc := 13) C 2 dX12_isControl_13 rfl rfl ?_
    refine at_iadd (pc := 14) C dX12_isControl_14 ?_
    obtain ⟨b2, hF⟩ := inb_some hF
    refine at_faload (pc := 15) C kd102 b2 dX12_isControl_15 ?_
    refine at_ldcf (pc := 16) C dX12_isControl_16 w1617 ?_
    obtain ⟨n3, hF⟩ := grd_some hF
    refine at_fmul (pc := 18) C dX12_isControl_18 n3 ?_
    refine at_iload_n (pc := 19) C 3 dX12_isControl_19 rfl rfl ?_
    refine at_i2f (pc := 20) C dX12_isControl_20 ?_
    refine at_fcmp (pc := 21) C dX12_isControl_21 ?_
    refine at_if_lt (pc := 22) (tgt := 29) C (jfcmp_R (FP.fmul (fb (σ.2 102 (ja (jm 8 v1) v2))) 1120403456) (ji2f v3) .l) dX12_isControl_22 rfl (fun c4 => ?_) (fun c4 => ?_)
    · have hF := (if_pos c4).symm.trans hF
      refine at_sub (lv' := []) [] rfl ?_
      exact J29  hF
    · have hF := (if_neg c4).symm.trans hF
      refine at_iconst (pc := 25) C dX12_isControl_25 ?_
      refine at_goto (pc := 26) (tgt := 30) C dX12_isControl_26 rfl ?_
      obtain rfl := Option.some.inj hF
      exact at_zret (pc := 30) C hr hlk (Or.inr rfl) ok dX12_isControl_30
abbrev rm_X12_areRelated : Room := { frames := 1, cells := 0, slots := 0, locals := 23 }
def F_X12_areRelated_J65 (N : Nat) (nx32 : (Int) → Option (Int)) (v1 : Int) (v2 : Int) (v3 : Int) (v4 : Int) (σ : Sto) : Option (Int) :=
  nx32 (ja v4 1)
def F_X12_areRelated_B32 (N : Nat) (nx32 : (Int) → Option (Int)) (v1 : Int) (v2 : Int) (v3 : Int) (v4 : Int) (σ : Sto) : Option (Int) :=
  if (σ.1 94 11) ≤ v4 then (some 0) else ((F_X12_isControl N v4 v1 v3 σ).bind (fun q7 => if q7 = 0 then (F_X12_areRelated_J65 N nx32 v1 v2 v3 v4 σ) else ((F_X12_isControl N v4 v2 v3 σ).bind (fun q9 => if q9 = 0 then (F_X12_areRelated_J65 N nx32 v1 v2 v3 v4 σ) else (some 1)))))
def F_X12_areRelated (N : Nat) (v1 : Int) (v2 : Int) (v3 : Int) (σ : Sto) : Option (Int) :=
  if v1 = v2 then (some 0) else ((F_X12_isControl N v1 v2 v3 σ).bind (fun q2 => if q2 = 0 then ((F_X12_isControl N v2 v1 v3 σ).bind (fun q4 => if q4 = 0 then (loopK (fun q nx32 => F_X12_areRelated_B32 N  nx32 v1 v2 v3 q σ) N 0) else (some 1))) else (some 1)))
set_option maxHeartbeats 4000000 in
set_option maxRecDepth 100000 in
theorem c_X12_areRelated (l : Launch) (g : Geo) (N : Nat) (v1 : Int) (v2 : Int) (v3 : Int) (σ : Sto) (res : Int) (h1 : inR v1) (h2 : inR v2) (h3 : inR v3) (ok : OK σ) (hF : F_X12_areRelated N v1 v2 v3 σ = some res) : MtI l g yX12_areRelated cX12_areRelated 5 (some .boolean) rm_X12_areRelated [vr g 94, vi v1, vi v2, vi v3] σ res σ isB := by
  intro sz
  refine Met.ofAt (own := RX12) (QQ := fun z => QI g z res σ isB) (by decide +kernel) (Nat.le_of_ble_eq_true rfl) rfl ?_
  intro p e s m args below meth c C hr hlk
  show At p l e rm_X12_areRelated s m args below meth c 0 0 g 5 (MQ below (QI g s.heap.size res σ isB) args s 0 0 (AA g s.heap.size)) 0 [(0, vr g 94), (1, vi v1), (2, vi v2), (3, vi v3)] [] σ
  unfold F_X12_areRelated at hF
  refine at_iload_n (pc := 0) C 1 dX12_areRelated_0 rfl rfl ?_
  refine at_iload_n (pc := 1) C 2 dX12_areRelated_1 rfl rfl ?_
  refine at_icmp_ne (pc := 2) (tgt := 7) C h1 h2 dX12_areRelated_2 rfl (fun c1 => ?_) (fun c1 => ?_)
  · have hF := (if_neg c1).symm.trans hF
    refine at_aload_n (pc := 7) C 0 dX12_areRelated_7 rfl rfl ?_
    refine at_iload_n (pc := 8) C 1 dX12_areRelated_8 rfl rfl ?_
    refine at_iload_n (pc := 9) C 2 dX12_areRelated_9 rfl rfl ?_
    refine at_iload_n (pc := 10) C 3 dX12_areRelated_10 rfl rfl ?_
    obtain ⟨q2, eq2, hF⟩ := bind_some' hF
    refine at_callV (pc := 11) (ci := 12) C (c_X12_isControl l g N v1 v2 v3 σ q2 h1 h2 h3 ok eq2) kv_X12_isControl w1622 kd94 rfl rfl rfl rfl (Nat.le_of_ble_eq_true rfl) ⟨rfl, rfl, (Nat.le_of_ble_eq_true rfl), (Nat.le_of_ble_eq_true rfl)⟩ dX12_areRelated_11 (fun tq2 okq2 => ?_)
    refine at_if_ne (pc := 14) (tgt := 27) C (isB.r tq2) dX12_areRelated_14 rfl (fun c3 => ?_) (fun c3 => ?_)
    · have hF := (if_neg c3).symm.trans hF
      refine at_iconst (pc := 27) C dX12_areRelated_27 ?_
      obtain rfl := Option.some.inj hF
      exact at_zret (pc := 28) C hr hlk (Or.inr rfl) ok dX12_areRelated_28
    · have hF := (if_pos c3).symm.trans hF
      refine at_aload_n (pc := 17) C 0 dX12_areRelated_17 rfl rfl ?_
      refine at_iload_n (pc := 18) C 2 dX12_areRelated_18 rfl rfl ?_
      refine at_iload_n (pc := 19) C 1 dX12_areRelated_19 rfl rfl ?_
      refine at_iload_n (pc := 20) C 3 dX12_areRelated_20 rfl rfl ?_
      obtain ⟨q4, eq4, hF⟩ := bind_some' hF
      refine at_callV (pc := 21) (ci := 12) C (c_X12_isControl l g N v2 v1 v3 σ q4 h2 h1 h3 ok eq4) kv_X12_isControl w1622 kd94 rfl rfl rfl rfl (Nat.le_of_ble_eq_true rfl) ⟨rfl, rfl, (Nat.le_of_ble_eq_true rfl), (Nat.le_of_ble_eq_true rfl)⟩ dX12_areRelated_21 (fun tq4 okq4 => ?_)
      refine at_if_eq (pc := 24) (tgt := 29) C (isB.r tq4) dX12_areRelated_24 rfl (fun c5 => ?_) (fun c5 => ?_)
      · have hF := (if_pos c5).symm.trans hF
        refine at_iconst (pc := 29) C dX12_areRelated_29 ?_
        refine at_istore (pc := 30) (lv' := [(4, vi 0), (0, vr g 94), (1, vi v1), (2, vi v2), (3, vi v3)]) C dX12_areRelated_30 (Nat.le_of_ble_eq_true rfl) rfl ?_
        have L32 : ∀ (v1 : Int) (v2 : Int) (v3 : Int) (v4 : Int), inR v1 → inR v2 → inR v3 → inR v4 → loopK (fun q nx32 => F_X12_areRelated_B32 N  nx32 v1 v2 v3 q σ) N v4 = some res → At p l e rm_X12_areRelated s m args below meth c 0 0 g 5 (MQ below (QI g s.heap.size res σ isB) args s 0 0 (AA g s.heap.size)) 32 [(0, vr g 94), (1, vi v1), (2, vi v2), (3, vi v3), (4, vi v4)] [] σ := by
          intro v1 v2 v3 v4 h1 h2 h3 h4 hF
          refine loopK_ind (res := res) (P := fun (q : Int) => inR q → At p l e rm_X12_areRelated s m args below meth c 0 0 g 5 (MQ below (QI g s.heap.size res σ isB) args s 0 0 (AA g s.heap.size)) 32 [(0, vr g 94), (1, vi v1), (2, vi v2), (3, vi v3), (4, vi q)] [] σ) ?_ N _ hF h4
          intro nx32 v4 ih32 hF h4
          have hF : F_X12_areRelated_B32 N  nx32 v1 v2 v3 v4 σ = some res := hF
          unfold F_X12_areRelated_B32 at hF
          refine at_iload (pc := 32) C 4 dX12_areRelated_32 rfl ?_
          refine at_aload_n (pc := 34) C 0 dX12_areRelated_34 rfl rfl ?_
          refine at_geti (pc := 35) (jz := 11) C fw_12_132 kd94 rfl (Nat.le_of_ble_eq_true rfl) rfl rfl dX12_areRelated_35 ?_
          refine at_icmp_ge (pc := 38) (tgt := 71) C h4 (ok 94 11) dX12_areRelated_38 rfl (fun c6 => ?_) (fun c6 => ?_)
          · have hF := (if_pos c6).symm.trans hF
            refine at_iconst (pc := 71) C dX12_areRelated_71 ?_
            obtain rfl := Option.some.inj hF
            exact at_zret (pc := 72) C hr hlk (Or.inl rfl) ok dX12_areRelated_72
          · have hF := (if_neg c6).symm.trans hF
            have J65 : ∀ (v4 : Int), inR v4 → F_X12_areRelated_J65 N nx32 v1 v2 v3 v4 σ = some res → At p l e rm_X12_areRelated s m args below meth c 0 0 g 5 (MQ below (QI g s.heap.size res σ isB) args s 0 0 (AA g s.heap.size)) 65 [(0, vr g 94), (1, vi v1), (2, vi v2), (3, vi v3), (4, vi v4)] [] σ := by
              intro v4 h4 hF
              unfold F_X12_areRelated_J65 at hF
              refine at_iinc (pc := 65) (lv' := [(4, vi (ja v4 1)), (0, vr g 94), (1, vi v1), (2, vi v2), (3, vi v3)]) C 4 dX12_areRelated_65 rfl (Nat.le_of_ble_eq_true rfl) rfl ?_
              refine at_goto (pc := 68) (tgt := 32) C dX12_areRelated_68 rfl ?_
              refine at_sub (lv' := [(0, vr g 94), (1, vi v1), (2, vi v2), (3, vi v3), (4, vi (ja v4 1))]) [1, 2, 3, 4, 0] rfl ?_
              exact ih32 _ hF (ja_R v4 1)
            refine at_aload_n (pc := 41) C 0 dX12_areRelated_41 rfl rfl ?_
            refine at_iload (pc := 42) C 4 dX12_areRelated_42 rfl ?_
            refine at_iload_n (pc := 44) C 1 dX12_areRelated_44 rfl rfl ?_
            refine at_iload_n (pc := 45) C 3 dX12_areRelated_45 rfl rfl ?_
            obtain ⟨q7, eq7, hF⟩ := bind_some' hF
            refine at_callV (pc := 46) (ci := 12) C (c_X12_isControl l g N v4 v1 v3 σ q7 h4 h1 h3 ok eq7) kv_X12_isControl w1622 kd94 rfl rfl rfl rfl (Nat.le_of_ble_eq_true rfl) ⟨rfl, rfl, (Nat.le_of_ble_eq_true rfl), (Nat.le_of_ble_eq_true rfl)⟩ dX12_areRelated_46 (fun tq7 okq7 => ?_)
            refine at_if_eq (pc := 49) (tgt := 65) C (isB.r tq7) dX12_areRelated_49 rfl (fun c8 => ?_) (fun c8 => ?_)
            · have hF := (if_pos c8).symm.trans hF
              exact J65 v4 h4 hF
            · have hF := (if_neg c8).symm.trans hF
              refine at_aload_n (pc := 52) C 0 dX12_areRelated_52 rfl rfl ?_
              refine at_iload (pc := 53) C 4 dX12_areRelated_53 rfl ?_
              refine at_iload_n (pc := 55) C 2 dX12_areRelated_55 rfl rfl ?_
              refine at_iload_n (pc := 56) C 3 dX12_areRelated_56 rfl rfl ?_
              obtain ⟨q9, eq9, hF⟩ := bind_some' hF
              refine at_callV (pc := 57) (ci := 12) C (c_X12_isControl l g N v4 v2 v3 σ q9 h4 h2 h3 ok eq9) kv_X12_isControl w1622 kd94 rfl rfl rfl rfl (Nat.le_of_ble_eq_true rfl) ⟨rfl, rfl, (Nat.le_of_ble_eq_true rfl), (Nat.le_of_ble_eq_true rfl)⟩ dX12_areRelated_57 (fun tq9 okq9 => ?_)
              refine at_if_eq (pc := 60) (tgt := 65) C (isB.r tq9) dX12_areRelated_60 rfl (fun c10 => ?_) (fun c10 => ?_)
              · have hF := (if_pos c10).symm.trans hF
                exact J65 v4 h4 hF
              · have hF := (if_neg c10).symm.trans hF
                refine at_iconst (pc := 63) C dX12_areRelated_63 ?_
                obtain rfl := Option.some.inj hF
                exact at_zret (pc := 64) C hr hlk (Or.inr rfl) ok dX12_areRelated_64
        refine at_sub (lv' := [(0, vr g 94), (1, vi v1), (2, vi v2), (3, vi v3), (4, vi 0)]) [1, 2, 3, 4, 0] rfl ?_
        exact L32 v1 v2 v3 0 h1 h2 h3 (isB.r (Or.inl rfl)) hF
      · have hF := (if_neg c5).symm.trans hF
        refine at_iconst (pc := 27) C dX12_areRelated_27 ?_
        obtain rfl := Option.some.inj hF
        exact at_zret (pc := 28) C hr hlk (Or.inr rfl) ok dX12_areRelated_28
  · have hF := (if_pos c1).symm.trans hF
    refine at_iconst (pc := 5) C dX12_areRelated_5 ?_
    obtain rfl := Option.some.inj hF
    exact at_zret (pc := 6) C hr hlk (Or.inl rfl) ok dX12_areRelated_6
abbrev rm_X12_laysStretches : Room := { frames := 3, cells := 0, slots := 0, locals := 72 }
def F_X12_laysStretches_J175 (N : Nat)   (σ : Sto) : Option (Sto) :=
  inb (σ.1 94 30) 26 (some (upI σ 103 (σ.1 94 30) 1000))
def F_X12_laysStretches_J170 (N : Nat) (nx7 : (Int × Sto) → Option (Sto)) (v1 : Int) (v3 : Int) (σ : Sto) : Option (Sto) :=
  nx7 (v3, σ)
def F_X12_laysStretches_J164 (N : Nat) (nx7 : (Int × Sto) → Option (Sto)) (nx123 : (Int × Int) → Option (Sto)) (v1 : Int) (v2 : Int) (v3 : Int) (v4 : Int) (σ : Sto) : Option (Sto) :=
  nx123 (v3, (ja v4 1))
def F_X12_laysStretches_B123 (N : Nat) (nx7 : (Int × Sto) → Option (Sto)) (nx123 : (Int × Int) → Option (Sto)) (v1 : Int) (v2 : Int) (v3 : Int) (v4 : Int) (σ : Sto) : Option (Sto) :=
  (F_X12_of N 103 σ).bind (fun q5 => if q5 ≤ v4 then (F_X12_laysStretches_J170 N nx7 v1 v3 σ) else ((F_X12_of N (ja (ja 104 (jm 4 v4)) 3) σ).bind (fun q7 => if q7 ≤ v2 then (F_X12_laysStretches_J164 N nx7 nx123 v1 v2 v3 v4 σ) else (if v3 ≤ q7 then (F_X12_laysStretches_J164 N nx7 nx123 v1 v2 v3 v4 σ) else (F_X12_laysStretches_J164 N nx7 nx123 v1 v2 q7 v4 σ)))))
def F_X12_laysStretches_J106 (N : Nat) (nx7 : (Int × Sto) → Option (Sto)) (v1 : Int) (v2 : Int) (σ : Sto) : Option (Sto) :=
  loopK (fun q nx123 => F_X12_laysStretches_B123 N nx7 nx123 v1 v2 q.1 q.2 (upI σ 94 30 (ja (σ.1 94 30) 1))) N (1000, 0)
def F_X12_laysStretches_J84 (N : Nat) (nx7 : (Int × Sto) → Option (Sto)) (nx31 : (Int × Sto) → Option (Sto)) (v1 : Int) (v2 : Int) (v3 : Int) (v4 : Int) (σ : Sto) : Option (Sto) :=
  inb (ja (jm 8 (σ.1 94 30)) v3) 208 (nx31 ((ja v3 1), (upI σ 104 (ja (jm 8 (σ.1 94 30)) v3) v4)))
def F_X12_laysStretches_J75 (N : Nat) (nx7 : (Int × Sto) → Option (Sto)) (nx31 : (Int × Sto) → Option (Sto)) (nx45 : (Int × Int) → Option (Sto)) (v1 : Int) (v2 : Int) (v3 : Int) (v5 : Int) (t0 : Int) (t1 : Int) (σ : Sto) : Option (Sto) :=
  nx45 ((jor t0 t1), (ja v5 1))
def F_X12_laysStretches_B45 (N : Nat) (nx7 : (Int × Sto) → Option (Sto)) (nx31 : (Int × Sto) → Option (Sto)) (nx45 : (Int × Int) → Option (Sto)) (v1 : Int) (v2 : Int) (v3 : Int) (v4 : Int) (v5 : Int) (σ : Sto) : Option (Sto) :=
  if (σ.1 94 11) ≤ v5 then (F_X12_laysStretches_J84 N nx7 nx31 v1 v2 v3 v4 σ) else ((F_X12_areRelated N v3 v5 v1 σ).bind (fun q13 => if q13 = 0 then (F_X12_laysStretches_J75 N nx7 nx31 nx45 v1 v2 v3 v5 v4 0 σ) else (F_X12_laysStretches_J75 N nx7 nx31 nx45 v1 v2 v3 v5 v4 (jshl 1 v5) σ)))
def F_X12_laysStretches_B31 (N : Nat) (nx7 : (Int × Sto) → Option (Sto)) (nx31 : (Int × Sto) → Option (Sto)) (v1 : Int) (v2 : Int) (v3 : Int) (σ : Sto) : Option (Sto) :=
  if (σ.1 94 11) ≤ v3 then (F_X12_laysStretches_J106 N nx7 v1 v2 σ) else (loopK (fun q nx45 => F_X12_laysStretches_B45 N nx7 nx31 nx45 v1 v2 v3 q.1 q.2 σ) N (0, 0))
def F_X12_laysStretches_B7 (N : Nat) (nx7 : (Int × Sto) → Option (Sto)) (v1 : Int) (v2 : Int) (σ : Sto) : Option (Sto) :=
  if 1000 ≤ v2 then (F_X12_laysStretches_J175 N   σ) else (inb (σ.1 94 30) 26 ((F_X12_laysShares N v2 (upI σ 103 (σ.1 94 30) v2)).bind (fun q4 => loopK (fun q nx31 => F_X12_laysStretches_B31 N nx7 nx31 v1 v2 q.1 q.2) N (0, q4))))
def F_X12_laysStretches (N : Nat) (v1 : Int) (σ : Sto) : Option (Sto) :=
  loopK (fun q nx7 => F_X12_laysStretches_B7 N  nx7 v1 q.1 q.2) N (0, (upI σ 94 30 0))
set_option maxHeartbeats 4000000 in
set_option maxRecDepth 100000 in
theorem c_X12_laysStretches (l : Launch) (g : Geo) (N : Nat) (v1 : Int) (σ : Sto) (res : Sto) (h1 : inR v1) (ok : OK σ) (hF : F_X12_laysStretches N v1 σ = some res) : MtV l g yX12_laysStretches cX12_laysStretches 6 none rm_X12_laysStretches [vr g 94, vi v1] σ res := by
  intro sz
  refine Met.ofAt (own := RX12) (QQ := fun z => QV g z res) (by decide +kernel) (Nat.le_of_ble_eq_true rfl) rfl ?_
  intro p e s m args below meth c C hr hlk
  show At p l e rm_X12_laysStretches s m args below meth c 0 0 g 6 (MQ below (QV g s.heap.size res) args s 0 0 (AA g s.heap.size)) 0 [(0, vr g 94), (1, vi v1)] [] σ
  unfold F_X12_laysStretches at hF
  refine at_aload_n (pc := 0) C 0 dX12_laysStretches_0 rfl rfl ?_
  refine at_iconst (pc := 1) C dX12_laysStretches_1 ?_
  refine at_puti (pc := 2) (jz := 30) C fu_12_220 kd94 rfl (Nat.le_of_ble_eq_true rfl) rfl rfl dX12_laysStretches_2 ?_
  refine at_iconst (pc := 5) C dX12_laysStretches_5 ?_
  refine at_istore_n (pc := 6) (lv' := [(2, vi 0), (0, vr g 94), (1, vi v1)]) C dX12_laysStretches_6 rfl (Nat.le_of_ble_eq_true rfl) rfl ?_
  have L7 : ∀ (v1 : Int) (v2 : Int) (σ : Sto), inR v1 → inR v2 → OK σ → loopK (fun q nx7 => F_X12_laysStretches_B7 N  nx7 v1 q.1 q.2) N (v2, σ) = some res → At p l e rm_X12_laysStretches s m args below meth c 0 0 g 6 (MQ below (QV g s.heap.size res) args s 0 0 (AA g s.heap.size)) 7 [(0, vr g 94), (1, vi v1), (2, vi v2)] [] σ := by
    intro v1 v2 σ h1 h2 ok hF
    refine loopK_ind (res := res) (P := fun (q : Int × Sto) => inR q.1 → OK q.2 → At p l e rm_X12_laysStretches s m args below meth c 0 0 g 6 (MQ below (QV g s.heap.size res) args s 0 0 (AA g s.heap.size)) 7 [(0, vr g 94), (1, vi v1), (2, vi q.1)] [] q.2) ?_ N _ hF h2 ok
    intro nx7 q ih7 hF
    obtain ⟨v2, σ⟩ := q
    intro h2 ok
    have hF : F_X12_laysStretches_B7 N  nx7 v1 v2 σ = some res := hF
    unfold F_X12_laysStretches_B7 at hF
    have J175 : ∀  (σ : Sto), OK σ → F_X12_laysStretches_J175 N   σ = some res → At p l e rm_X12_laysStretches s m args below meth c 0 0 g 6 (MQ below (QV g s.heap.size res) args s 0 0 (AA g s.heap.size)) 175 [(0, vr g 94)] [] σ := by
      intro σ ok hF
      unfold F_X12_laysStretches_J175 at hF
      refine at_aload_n (pc := 175) C 0 dX12_laysStretches_175 rfl rfl ?_
      refine at_getr (pc := 176) (k' := 103) C 9 fw_12_39 kd94 rfl (Nat.le_of_ble_eq_true rfl) rfl rfl dX12_laysStretches_176 ?_
      refine at_aload_n (pc := 179) C 0 dX12_laysStretches_179 rfl rfl ?_
      refine at_geti (pc := 180) (jz := 30) C fw_12_220 kd94 rfl (Nat.le_of_ble_eq_true rfl) rfl rfl dX12_laysStretches_180 ?_
      refine at_sipush (pc := 183) C dX12_laysStretches_183 (by decide) ?_
      obtain ⟨b1, hF⟩ := inb_some hF
      refine at_iastore (pc := 186) C kd103 b1 dX12_laysStretches_186 ?_
      obtain rfl := Option.some.inj hF
      exact at_vret (pc := 187) C hr hlk (OK_up (k := 103) (j := (σ.1 94 30)) ok (show inR 1000 from ⟨by decide, by decide⟩)) dX12_laysStretches_187
    refine at_iload_n (pc := 7) C 2 dX12_laysStretches_7 rfl rfl ?_
    refine at_sipush (pc := 8) C dX12_laysStretches_8 (by decide) ?_
    refine at_icmp_ge (pc := 11) (tgt := 175) C h2 (show inR 1000 from ⟨by decide, by decide⟩) dX12_laysStretches_11 rfl (fun c2 => ?_) (fun c2 => ?_)
    · have hF := (if_pos c2).symm.trans hF
      refine at_sub (lv' := [(0, vr g 94)]) [0] rfl ?_
      exact J175 σ ok hF
    · have hF := (if_neg c2).symm.trans hF
      refine at_aload_n (pc := 14) C 0 dX12_laysStretches_14 rfl rfl ?_
      refine at_getr (pc := 15) (k' := 103) C 9 fw_12_39 kd94 rfl (Nat.le_of_ble_eq_true rfl) rfl rfl dX12_laysStretches_15 ?_
      refine at_aload_n (pc := 18) C 0 dX12_laysStretches_18 rfl rfl ?_
      refine at_geti (pc := 19) (jz := 30) C fw_12_220 kd94 rfl (Nat.le_of_ble_eq_true rfl) rfl rfl dX12_laysStretches_19 ?_
      refine at_iload_n (pc := 22) C 2 dX12_laysStretches_22 rfl rfl ?_
      obtain ⟨b3, hF⟩ := inb_some hF
      refine at_iastore (pc := 23) C kd103 b3 dX12_laysStretches_23 ?_
      refine at_aload_n (pc := 24) C 0 dX12_laysStretches_24 rfl rfl ?_
      refine at_iload_n (pc := 25) C 2 dX12_laysStretches_25 rfl rfl ?_
      obtain ⟨q4, eq4, hF⟩ := bind_some' hF
      refine at_callVv (pc := 26) (ci := 12) C (c_X12_laysShares l g N v2 (upI σ 103 (σ.1 94 30) v2) q4 h2 (OK_up (k := 103) (j := (σ.1 94 30)) ok h2) eq4) kv_X12_laysShares w1609 kd94 rfl rfl rfl rfl (Nat.le_of_ble_eq_true rfl) ⟨rfl, rfl, (Nat.le_of_ble_eq_true rfl), (Nat.le_of_ble_eq_true rfl)⟩ dX12_laysStretches_26 (fun okq4 => ?_)
      refine at_iconst (pc := 29) C dX12_laysStretches_29 ?_
      refine at_istore_n (pc := 30) (lv' := [(3, vi 0), (0, vr g 94), (1, vi v1), (2, vi v2)]) C dX12_laysStretches_30 rfl (Nat.le_of_ble_eq_true rfl) rfl ?_
      have L31 : ∀ (v2 : Int) (v3 : Int) (σ : Sto), inR v2 → inR v3 → OK σ → loopK (fun q nx31 => F_X12_laysStretches_B31 N nx7 nx31 v1 v2 q.1 q.2) N (v3, σ) = some res → At p l e rm_X12_laysStretches s m args below meth c 0 0 g 6 (MQ below (QV g s.heap.size res) args s 0 0 (AA g s.heap.size)) 31 [(0, vr g 94), (1, vi v1), (2, vi v2), (3, vi v3)] [] σ := by
        intro v2 v3 σ h2 h3 ok hF
        refine loopK_ind (res := res) (P := fun (q : Int × Sto) => inR q.1 → OK q.2 → At p l e rm_X12_laysStretches s m args below meth c 0 0 g 6 (MQ below (QV g s.heap.size res) args s 0 0 (AA g s.heap.size)) 31 [(0, vr g 94), (1, vi v1), (2, vi v2), (3, vi q.1)] [] q.2) ?_ N _ hF h3 ok
        intro nx31 q ih31 hF
        obtain ⟨v3, σ⟩ := q
        intro h3 ok
        have hF : F_X12_laysStretches_B31 N nx7 nx31 v1 v2 v3 σ = some res := hF
        unfold F_X12_laysStretches_B31 at hF
        have J106 : ∀ (v2 : Int) (σ : Sto), inR v2 → OK σ → F_X12_laysStretches_J106 N nx7 v1 v2 σ = some res → At p l e rm_X12_laysStretches s m args below meth c 0 0 g 6 (MQ below (QV g s.heap.size res) args s 0 0 (AA g s.heap.size)) 106 [(0, vr g 94), (1, vi v1), (2, vi v2)] [] σ := by
          intro v2 σ h2 ok hF
          unfold F_X12_laysStretches_J106 at hF
          refine at_aload_n (pc := 106) C 0 dX12_laysStretches_106 rfl rfl ?_
          refine at_dup (pc := 107) C dX12_laysStretches_107 rfl ?_
          refine at_geti (pc := 108) (jz := 30) C fw_12_220 kd94 rfl (Nat.le_of_ble_eq_true rfl) rfl rfl dX12_laysStretches_108 ?_
          refine at_iconst (pc := 111) C dX12_laysStretches_111 ?_
          refine at_iadd (pc := 112) C dX12_laysStretches_112 ?_
          refine at_puti (pc := 113) (jz := 30) C fu_12_220 kd94 rfl (Nat.le_of_ble_eq_true rfl) rfl rfl dX12_laysStretches_113 ?_
          refine at_sipush (pc := 116) C dX12_laysStretches_116 (by decide) ?_
          refine at_istore_n (pc := 119) (lv' := [(3, vi 1000), (0, vr g 94), (1, vi v1), (2, vi v2)]) C dX12_laysStretches_119 rfl (Nat.le_of_ble_eq_true rfl) rfl ?_
          refine at_iconst (pc := 120) C dX12_laysStretches_120 ?_
          refine at_istore (pc := 121) (lv' := [(4, vi 0), (3, vi 1000), (0, vr g 94), (1, vi v1), (2, vi v2)]) C dX12_laysStretches_121 (Nat.le_of_ble_eq_true rfl) rfl ?_
          have L123 : ∀ (v2 : Int) (v3 : Int) (v4 : Int) (σ : Sto), inR v2 → inR v3 → inR v4 → OK σ → loopK (fun q nx123 => F_X12_laysStretches_B123 N nx7 nx123 v1 v2 q.1 q.2 σ) N (v3, v4) = some res → At p l e rm_X12_laysStretches s m args below meth c 0 0 g 6 (MQ below (QV g s.heap.size res) args s 0 0 (AA g s.heap.size)) 123 [(0, vr g 94), (1, vi v1), (2, vi v2), (3, vi v3), (4, vi v4)] [] σ := by
            intro v2 v3 v4 σ h2 h3 h4 ok hF
            refine loopK_ind (res := res) (P := fun (q : Int × Int) => inR q.1 → inR q.2 → At p l e rm_X12_laysStretches s m args below meth c 0 0 g 6 (MQ below (QV g s.heap.size res) args s 0 0 (AA g s.heap.size)) 123 [(0, vr g 94), (1, vi v1), (2, vi v2), (3, vi q.1), (4, vi q.2)] [] σ) ?_ N _ hF h3 h4
            intro nx123 q ih123 hF
            obtain ⟨v3, v4⟩ := q
            intro h3 h4
            have hF : F_X12_laysStretches_B123 N nx7 nx123 v1 v2 v3 v4 σ = some res := hF
            unfold F_X12_laysStretches_B123 at hF
            have J170 : ∀ (v3 : Int) (σ : Sto), inR v3 → OK σ → F_X12_laysStretches_J170 N nx7 v1 v3 σ = some res → At p l e rm_X12_laysStretches s m args below meth c 0 0 g 6 (MQ below (QV g s.heap.size res) args s 0 0 (AA g s.heap.size)) 170 [(0, vr g 94), (1, vi v1), (3, vi v3)] [] σ := by
              intro v3 σ h3 ok hF
              unfold F_X12_laysStretches_J170 at hF
              refine at_iload_n (pc := 170) C 2 dX12_laysStretches_170 rfl rfl ?_
              refine at_istore_n (pc := 171) (lv' := [(2, vi v3), (0, vr g 94), (1, vi v1), (3, vi v3)]) C dX12_laysStretches_171 rfl (Nat.le_of_ble_eq_true rfl) rfl ?_
              refine at_goto (pc := 172) (tgt := 7) C dX12_laysStretches_172 rfl ?_
              refine at_sub (lv' := [(0, vr g 94), (1, vi v1), (2, vi v3)]) [1, 2, 0] rfl ?_
              exact ih7 _ hF h3 ok
            refine at_iload (pc := 123) C 4 dX12_laysStretches_123 rfl ?_
            refine at_aload_n (pc := 125) C 0 dX12_laysStretches_125 rfl rfl ?_
            refine at_bipush (pc := 126) C dX12_laysStretches_126 (by decide) ?_
            obtain ⟨q5, eq5, hF⟩ := bind_some' hF
            refine at_callV (pc := 128) (ci := 12) C (c_X12_of l g N 103 σ q5 (show inR 103 from ⟨by decide, by decide⟩) ok eq5) kv_X12_of w1565 kd94 rfl rfl rfl rfl (Nat.le_of_ble_eq_true rfl) ⟨rfl, rfl, (Nat.le_of_ble_eq_true rfl), (Nat.le_of_ble_eq_true rfl)⟩ dX12_laysStretches_128 (fun tq5 okq5 => ?_)
            refine at_icmp_ge (pc := 131) (tgt := 170) C h4 tq5 dX12_laysStretches_131 rfl (fun c6 => ?_) (fun c6 => ?_)
            · have hF := (if_pos c6).symm.trans hF
              refine at_sub (lv' := [(0, vr g 94), (1, vi v1), (3, vi v3)]) [0, 1, 3] rfl ?_
              exact J170 v3 σ h3 ok hF
            · have hF := (if_neg c6).symm.trans hF
              have J164 : ∀ (v3 : Int) (v4 : Int), inR v3 → inR v4 → F_X12_laysStretches_J164 N nx7 nx123 v1 v2 v3 v4 σ = some res → At p l e rm_X12_laysStretches s m args below meth c 0 0 g 6 (MQ below (QV g s.heap.size res) args s 0 0 (AA g s.heap.size)) 164 [(0, vr g 94), (1, vi v1), (2, vi v2), (3, vi v3), (4, vi v4)] [] σ := by
                intro v3 v4 h3 h4 hF
                unfold F_X12_laysStretches_J164 at hF
                refine at_iinc (pc := 164) (lv' := [(4, vi (ja v4 1)), (0, vr g 94), (1, vi v1), (2, vi v2), (3, vi v3)]) C 4 dX12_laysStretches_164 rfl (Nat.le_of_ble_eq_true rfl) rfl ?_
                refine at_goto (pc := 167) (tgt := 123) C dX12_laysStretches_167 rfl ?_
                refine at_sub (lv' := [(0, vr g 94), (1, vi v1), (2, vi v2), (3, vi v3), (4, vi (ja v4 1))]) [1, 2, 3, 4, 0] rfl ?_
                exact ih123 _ hF h3 (ja_R v4 1)
              refine at_aload_n (pc := 134) C 0 dX12_laysStretches_134 rfl rfl ?_
              refine at_bipush (pc := 135) C dX12_laysStretches_135 (by decide) ?_
              refine at_iconst (pc := 137) C dX12_laysStretches_137 ?_
              refine at_iload (pc := 138) C 4 dX12_laysStretches_138 rfl ?_
              refine at_imul (pc := 140) C dX12_laysStretches_140 ?_
              refine at_iadd (pc := 141) C dX12_laysStretches_141 ?_
              refine at_iconst (pc := 142) C dX12_laysStretches_142 ?_
              refine at_iadd (pc := 143) C dX12_laysStretches_143 ?_
              obtain ⟨q7, eq7, hF⟩ := bind_some' hF
              refine at_callV (pc := 144) (ci := 12) C (c_X12_of l g N (ja (ja 104 (jm 4 v4)) 3) σ q7 (ja_R (ja 104 (jm 4 v4)) 3) ok eq7) kv_X12_of w1565 kd94 rfl rfl rfl rfl (Nat.le_of_ble_eq_true rfl) ⟨rfl, rfl, (Nat.le_of_ble_eq_true rfl), (Nat.le_of_ble_eq_true rfl)⟩ dX12_laysStretches_144 (fun tq7 okq7 => ?_)
              refine at_istore (pc := 147) (lv' := [(5, vi q7), (0, vr g 94), (1, vi v1), (2, vi v2), (3, vi v3), (4, vi v4)]) C dX12_laysStretches_147 (Nat.le_of_ble_eq_true rfl) rfl ?_
              refine at_iload (pc := 149) C 0 dX12_laysStretches_149 rfl ?_
              refine at_iload_n (pc := 151) C 3 dX12_laysStretches_151 rfl rfl ?_
              refine at_icmp_le (pc := 152) (tgt := 164) C tq7 h2 dX12_laysStretches_152 rfl (fun c8 => ?_) (fun c8 => ?_)
              · have hF := (if_pos c8).symm.trans hF
                refine at_sub (lv' := [(0, vr g 94), (1, vi v1), (2, vi v2), (3, vi v3), (4, vi v4)]) [1, 2, 3, 4, 5] rfl ?_
                exact J164 v3 v4 h3 h4 hF
              · have hF := (if_neg c8).symm.trans hF
                refine at_iload (pc := 155) C 0 dX12_laysStretches_155 rfl ?_
                refine at_iload_n (pc := 157) C 4 dX12_laysStretches_157 rfl rfl ?_
                refine at_icmp_ge (pc := 158) (tgt := 164) C tq7 h3 dX12_laysStretches_158 rfl (fun c9 => ?_) (fun c9 => ?_)
                · have hF := (if_pos c9).symm.trans hF
                  refine at_sub (lv' := [(0, vr g 94), (1, vi v1), (2, vi v2), (3, vi v3), (4, vi v4)]) [1, 2, 3, 4, 5] rfl ?_
                  exact J164 v3 v4 h3 h4 hF
                · have hF := (if_neg c9).symm.trans hF
                  refine at_iload (pc := 161) C 0 dX12_laysStretches_161 rfl ?_
                  refine at_istore_n (pc := 163) (lv' := [(3, vi q7), (5, vi q7), (0, vr g 94), (1, vi v1), (2, vi v2), (4, vi v4)]) C dX12_laysStretches_163 rfl (Nat.le_of_ble_eq_true rfl) rfl ?_
                  refine at_sub (lv' := [(0, vr g 94), (1, vi v1), (2, vi v2), (3, vi q7), (4, vi v4)]) [2, 3, 4, 0, 5] rfl ?_
                  exact J164 q7 v4 tq7 h4 hF
          refine at_sub (lv' := [(0, vr g 94), (1, vi v1), (2, vi v2), (3, vi 1000), (4, vi 0)]) [2, 3, 4, 1, 0] rfl ?_
          exact L123 v2 1000 0 (upI σ 94 30 (ja (σ.1 94 30) 1)) h2 (show inR 1000 from ⟨by decide, by decide⟩) (isB.r (Or.inl rfl)) (OK_up (k := 94) (j := 30) ok (ja_R (σ.1 94 30) 1)) hF
        refine at_iload_n (pc := 31) C 3 dX12_laysStretches_31 rfl rfl ?_
        refine at_aload_n (pc := 32) C 0 dX12_laysStretches_32 rfl rfl ?_
        refine at_geti (pc := 33) (jz := 11) C fw_12_132 kd94 rfl (Nat.le_of_ble_eq_true rfl) rfl rfl dX12_laysStretches_33 ?_
        refine at_icmp_ge (pc := 36) (tgt := 106) C h3 (ok 94 11) dX12_laysStretches_36 rfl (fun c10 => ?_) (fun c10 => ?_)
        · have hF := (if_pos c10).symm.trans hF
          refine at_sub (lv' := [(0, vr g 94), (1, vi v1), (2, vi v2)]) [0, 1, 2] rfl ?_
          exact J106 v2 σ h2 ok hF
        · have hF := (if_neg c10).symm.trans hF
          refine at_iconst (pc := 39) C dX12_laysStretches_39 ?_
          refine at_istore (pc := 40) (lv' := [(4, vi 0), (0, vr g 94), (1, vi v1), (2, vi v2), (3, vi v3)]) C dX12_laysStretches_40 (Nat.le_of_ble_eq_true rfl) rfl ?_
          refine at_iconst (pc := 42) C dX12_laysStretches_42 ?_
          refine at_istore (pc := 43) (lv' := [(5, vi 0), (4, vi 0), (0, vr g 94), (1, vi v1), (2, vi v2), (3, vi v3)]) C dX12_laysStretches_43 (Nat.le_of_ble_eq_true rfl) rfl ?_
          have L45 : ∀ (v3 : Int) (v4 : Int) (v5 : Int) (σ : Sto), inR v3 → inR v4 → inR v5 → OK σ → loopK (fun q nx45 => F_X12_laysStretches_B45 N nx7 nx31 nx45 v1 v2 v3 q.1 q.2 σ) N (v4, v5) = some res → At p l e rm_X12_laysStretches s m args below meth c 0 0 g 6 (MQ below (QV g s.heap.size res) args s 0 0 (AA g s.heap.size)) 45 [(0, vr g 94), (1, vi v1), (2, vi v2), (3, vi v3), (4, vi v4), (5, vi v5)] [] σ := by
            intro v3 v4 v5 σ h3 h4 h5 ok hF
            refine loopK_ind (res := res) (P := fun (q : Int × Int) => inR q.1 → inR q.2 → At p l e rm_X12_laysStretches s m args below meth c 0 0 g 6 (MQ below (QV g s.heap.size res) args s 0 0 (AA g s.heap.size)) 45 [(0, vr g 94), (1, vi v1), (2, vi v2), (3, vi v3), (4, vi q.1), (5, vi q.2)] [] σ) ?_ N _ hF h4 h5
            intro nx45 q ih45 hF
            obtain ⟨v4, v5⟩ := q
            intro h4 h5
            have hF : F_X12_laysStretches_B45 N nx7 nx31 nx45 v1 v2 v3 v4 v5 σ = some res := hF
            unfold F_X12_laysStretches_B45 at hF
            have J84 : ∀ (v3 : Int) (v4 : Int) (σ : Sto), inR v3 → inR v4 → OK σ → F_X12_laysStretches_J84 N nx7 nx31 v1 v2 v3 v4 σ = some res → At p l e rm_X12_laysStretches s m args below meth c 0 0 g 6 (MQ below (QV g s.heap.size res) args s 0 0 (AA g s.heap.size)) 84 [(0, vr g 94), (1, vi v1), (2, vi v2), (3, vi v3), (4, vi v4)] [] σ := by
              intro v3 v4 σ h3 h4 ok hF
              unfold F_X12_laysStretches_J84 at hF
              refine at_aload_n (pc := 84) C 0 dX12_laysStretches_84 rfl rfl ?_
              refine at_getr (pc := 85) (k' := 104) C 10 fw_12_42 kd94 rfl (Nat.le_of_ble_eq_true rfl) rfl rfl dX12_laysStretches_85 ?_
              refine at_bipush (pc := 88) C dX12_laysStretches_88 (by decide) ?_
              refine at_aload_n (pc := 90) C 0 dX12_laysStretches_90 rfl rfl ?_
              refine at_geti (pc := 91) (jz := 30) C fw_12_220 kd94 rfl (Nat.le_of_ble_eq_true rfl) rfl rfl dX12_laysStretches_91 ?_
              refine at_imul (pc := 94) C dX12_laysStretches_94 ?_
              refine at_iload_n (pc := 95) C 3 dX12_laysStretches_95 rfl rfl ?_
              refine at_iadd (pc := 96) C dX12_laysStretches_96 ?_
              refine at_iload (pc := 97) C 4 dX12_laysStretches_97 rfl ?_
              obtain ⟨b11, hF⟩ := inb_some hF
              refine at_iastore (pc := 99) C kd104 b11 dX12_laysStretches_99 ?_
              refine at_iinc (pc := 100) (lv' := [(3, vi (ja v3 1)), (0, vr g 94), (1, vi v1), (2, vi v2), (4, vi v4)]) C 3 dX12_laysStretches_100 rfl (Nat.le_of_ble_eq_true rfl) rfl ?_
              refine at_goto (pc := 103) (tgt := 31) C dX12_laysStretches_103 rfl ?_
              refine at_sub (lv' := [(0, vr g 94), (1, vi v1), (2, vi v2), (3, vi (ja v3 1))]) [1, 2, 3, 0] rfl ?_
              exact ih31 _ hF (ja_R v3 1) (OK_up (k := 104) (j := (ja (jm 8 (σ.1 94 30)) v3)) ok h4)
            refine at_iload (pc := 45) C 5 dX12_laysStretches_45 rfl ?_
            refine at_aload_n (pc := 47) C 0 dX12_laysStretches_47 rfl rfl ?_
            refine at_geti (pc := 48) (jz := 11) C fw_12_132 kd94 rfl (Nat.le_of_ble_eq_true rfl) rfl rfl dX12_laysStretches_48 ?_
            refine at_icmp_ge (pc := 51) (tgt := 84) C h5 (ok 94 11) dX12_laysStretches_51 rfl (fun c12 => ?_) (fun c12 => ?_)
            · have hF := (if_pos c12).symm.trans hF
              refine at_sub (lv' := [(0, vr g 94), (1, vi v1), (2, vi v2), (3, vi v3), (4, vi v4)]) [0, 1, 2, 3, 4] rfl ?_
              exact J84 v3 v4 σ h3 h4 ok hF
            · have hF := (if_neg c12).symm.trans hF
              have J75 : ∀ (v5 : Int) (t0 : Int) (t1 : Int), inR v5 → inR t0 → inR t1 → F_X12_laysStretches_J75 N nx7 nx31 nx45 v1 v2 v3 v5 t0 t1 σ = some res → At p l e rm_X12_laysStretches s m args below meth c 0 0 g 6 (MQ below (QV g s.heap.size res) args s 0 0 (AA g s.heap.size)) 75 [(0, vr g 94), (1, vi v1), (2, vi v2), (3, vi v3), (5, vi v5)] [vi t1, vi t0] σ := by
                intro v5 t0 t1 h5 ht0 ht1 hF
                unfold F_X12_laysStretches_J75 at hF
                refine at_ior (pc := 75) C dX12_laysStretches_75 ?_
                refine at_istore (pc := 76) (lv' := [(4, vi (jor t0 t1)), (0, vr g 94), (1, vi v1), (2, vi v2), (3, vi v3), (5, vi v5)]) C dX12_laysStretches_76 (Nat.le_of_ble_eq_true rfl) rfl ?_
                refine at_iinc (pc := 78) (lv' := [(5, vi (ja v5 1)), (4, vi (jor t0 t1)), (0, vr g 94), (1, vi v1), (2, vi v2), (3, vi v3)]) C 5 dX12_laysStretches_78 rfl (Nat.le_of_ble_eq_true rfl) rfl ?_
                refine at_goto (pc := 81) (tgt := 45) C dX12_laysStretches_81 rfl ?_
                refine at_sub (lv' := [(0, vr g 94), (1, vi v1), (2, vi v2), (3, vi v3), (4, vi (jor t0 t1)), (5, vi (ja v5 1))]) [2, 3, 4, 5, 1, 0] rfl ?_
                exact ih45 _ hF (jor_R t0 t1) (ja_R v5 1)
              refine at_iload (pc := 54) C 4 dX12_laysStretches_54 rfl ?_
              refine at_aload_n (pc := 56) C 0 dX12_laysStretches_56 rfl rfl ?_
              refine at_iload_n (pc := 57) C 3 dX12_laysStretches_57 rfl rfl ?_
              refine at_iload (pc := 58) C 5 dX12_laysStretches_58 rfl ?_
              refine at_iload_n (pc := 60) C 1 dX12_laysStretches_60 rfl rfl ?_
              obtain ⟨q13, eq13, hF⟩ := bind_some' hF
              refine at_callV (pc := 61) (ci := 12) C (c_X12_areRelated l g N v3 v5 v1 σ q13 h3 h5 h1 ok eq13) kv_X12_areRelated w1618 kd94 rfl rfl rfl rfl (Nat.le_of_ble_eq_true rfl) ⟨rfl, rfl, (Nat.le_of_ble_eq_true rfl), (Nat.le_of_ble_eq_true rfl)⟩ dX12_laysStretches_61 (fun tq13 okq13 => ?_)
              refine at_if_eq (pc := 64) (tgt := 74) C (isB.r tq13) dX12_laysStretches_64 rfl (fun c14 => ?_) (fun c14 => ?_)
              · have hF := (if_pos c14).symm.trans hF
                refine at_iconst (pc := 74) C dX12_laysStretches_74 ?_
                refine at_sub (lv' := [(0, vr g 94), (1, vi v1), (2, vi v2), (3, vi v3), (5, vi v5)]) [0, 1, 2, 3, 5] rfl ?_
                exact J75 v5 v4 0 h5 h4 (isB.r (Or.inl rfl)) hF
              · have hF := (if_neg c14).symm.trans hF
                refine at_iconst (pc := 67) C dX12_laysStretches_67 ?_
                refine at_iload (pc := 68) C 5 dX12_laysStretches_68 rfl ?_
                refine at_ishl (pc := 70) C dX12_laysStretches_70 ?_
                refine at_goto (pc := 71) (tgt := 75) C dX12_laysStretches_71 rfl ?_
                refine at_sub (lv' := [(0, vr g 94), (1, vi v1), (2, vi v2), (3, vi v3), (5, vi v5)]) [0, 1, 2, 3, 5] rfl ?_
                exact J75 v5 v4 (jshl 1 v5) h5 h4 (jshl_R 1 v5) hF
          refine at_sub (lv' := [(0, vr g 94), (1, vi v1), (2, vi v2), (3, vi v3), (4, vi 0), (5, vi 0)]) [2, 3, 4, 5, 1, 0] rfl ?_
          exact L45 v3 0 0 σ h3 (isB.r (Or.inl rfl)) (isB.r (Or.inl rfl)) ok hF
      refine at_sub (lv' := [(0, vr g 94), (1, vi v1), (2, vi v2), (3, vi 0)]) [1, 2, 3, 0] rfl ?_
      exact L31 v2 0 q4 h2 (isB.r (Or.inl rfl)) okq4 hF
  refine at_sub (lv' := [(0, vr g 94), (1, vi v1), (2, vi 0)]) [1, 2, 0] rfl ?_
  exact L7 v1 0 (upI σ 94 30 0) h1 (isB.r (Or.inl rfl)) (OK_up (k := 94) (j := 30) ok (isB.r (Or.inl rfl))) hF
abbrev rm_X12_daysOf : Room := { frames := 0, cells := 0, slots := 0, locals := 0 }
def F_X12_daysOf_J118 (N : Nat) (nx6 : (Int × Int) → Option (Int)) (v1 : Int) (v2 : Int) (v3 : Int) (v4 : Int) (v5 : Int) (v6 : Int) (σ : Sto) : Option (Int) :=
  nx6 (v5, (ja v6 1))
def F_X12_daysOf_J115 (N : Nat) (nx6 : (Int × Int) → Option (Int)) (v1 : Int) (v2 : Int) (v3 : Int) (v4 : Int) (v6 : Int) (t0 : Int) (t1 : Int) (σ : Sto) : Option (Int) :=
  F_X12_daysOf_J118 N nx6 v1 v2 v3 v4 (ja t0 t1) v6 σ
def F_X12_daysOf_J93 (N : Nat) (nx6 : (Int × Int) → Option (Int)) (v1 : Int) (v2 : Int) (v3 : Int) (v4 : Int) (v5 : Int) (v6 : Int) (v7 : Int) (t0 : Int) (σ : Sto) : Option (Int) :=
  if t0 < v7 then (F_X12_daysOf_J115 N nx6 v1 v2 v3 v4 v6 v5 0 σ) else (F_X12_daysOf_J115 N nx6 v1 v2 v3 v4 v6 v5 (ja (js t0 v7) 1) σ)
def F_X12_daysOf_J59 (N : Nat) (nx6 : (Int × Int) → Option (Int)) (v1 : Int) (v2 : Int) (v3 : Int) (v4 : Int) (v5 : Int) (v6 : Int) (t0 : Int) (σ : Sto) : Option (Int) :=
  inb (ja v6 1) 26 (if v4 ≤ (js (σ.1 103 (ja v6 1)) 1) then (F_X12_daysOf_J93 N nx6 v1 v2 v3 v4 v5 v6 t0 v4 σ) else (F_X12_daysOf_J93 N nx6 v1 v2 v3 v4 v5 v6 t0 (js (σ.1 103 (ja v6 1)) 1) σ))
def F_X12_daysOf_B6 (N : Nat) (nx6 : (Int × Int) → Option (Int)) (v1 : Int) (v2 : Int) (v3 : Int) (v4 : Int) (v5 : Int) (v6 : Int) (σ : Sto) : Option (Int) :=
  if (σ.1 94 30) ≤ v6 then (some v5) else (inb (ja (jm 8 v6) v1) 208 (if (jand (jshr (σ.1 104 (ja (jm 8 v6) v1)) v2) 1) = 0 then (F_X12_daysOf_J118 N nx6 v1 v2 v3 v4 v5 v6 σ) else (inb v6 26 (if (σ.1 103 v6) ≤ v3 then (F_X12_daysOf_J59 N nx6 v1 v2 v3 v4 v5 v6 v3 σ) else (F_X12_daysOf_J59 N nx6 v1 v2 v3 v4 v5 v6 (σ.1 103 v6) σ)))))
def F_X12_daysOf (N : Nat) (v1 : Int) (v2 : Int) (v3 : Int) (v4 : Int) (σ : Sto) : Option (Int) :=
  loopK (fun q nx6 => F_X12_daysOf_B6 N  nx6 v1 v2 v3 v4 q.1 q.2 σ) N (0, 0)
set_option maxHeartbeats 4000000 in
set_option maxRecDepth 100000 in
theorem c_X12_daysOf (l : Launch) (g : Geo) (N : Nat) (v1 : Int) (v2 : Int) (v3 : Int) (v4 : Int) (σ : Sto) (res : Int) (h1 : inR v1) (h2 : inR v2) (h3 : inR v3) (h4 : inR v4) (ok : OK σ) (hF : F_X12_daysOf N v1 v2 v3 v4 σ = some res) : MtI l g yX12_daysOf cX12_daysOf 9 (some .int) rm_X12_daysOf [vr g 94, vi v1, vi v2, vi v3, vi v4] σ res σ inR := by
  intro sz
  refine Met.ofAt (own := RX12) (QQ := fun z => QI g z res σ inR) (by decide +kernel) (Nat.le_of_ble_eq_true rfl) rfl ?_
  intro p e s m args below meth c C hr hlk
  show At p l e rm_X12_daysOf s m args below meth c 0 0 g 9 (MQ below (QI g s.heap.size res σ inR) args s 0 0 (AA g s.heap.size)) 0 [(0, vr g 94), (1, vi v1), (2, vi v2), (3, vi v3), (4, vi v4)] [] σ
  unfold F_X12_daysOf at hF
  refine at_iconst (pc := 0) C dX12_daysOf_0 ?_
  refine at_istore (pc := 1) (lv' := [(5, vi 0), (0, vr g 94), (1, vi v1), (2, vi v2), (3, vi v3), (4, vi v4)]) C dX12_daysOf_1 (Nat.le_of_ble_eq_true rfl) rfl ?_
  refine at_iconst (pc := 3) C dX12_daysOf_3 ?_
  refine at_istore (pc := 4) (lv' := [(6, vi 0), (5, vi 0), (0, vr g 94), (1, vi v1), (2, vi v2), (3, vi v3), (4, vi v4)]) C dX12_daysOf_4 (Nat.le_of_ble_eq_true rfl) rfl ?_
  have L6 : ∀ (v1 : Int) (v2 : Int) (v3 : Int) (v4 : Int) (v5 : Int) (v6 : Int), inR v1 → inR v2 → inR v3 → inR v4 → inR v5 → inR v6 → loopK (fun q nx6 => F_X12_daysOf_B6 N  nx6 v1 v2 v3 v4 q.1 q.2 σ) N (v5, v6) = some res → At p l e rm_X12_daysOf s m args below meth c 0 0 g 9 (MQ below (QI g s.heap.size res σ inR) args s 0 0 (AA g s.heap.size)) 6 [(0, vr g 94), (1, vi v1), (2, vi v2), (3, vi v3), (4, vi v4), (5, vi v5), (6, vi v6)] [] σ := by
    intro v1 v2 v3 v4 v5 v6 h1 h2 h3 h4 h5 h6 hF
    refine loopK_ind (res := res) (P := fun (q : Int × Int) => inR q.1 → inR q.2 → At p l e rm_X12_daysOf s m args below meth c 0 0 g 9 (MQ below (QI g s.heap.size res σ inR) args s 0 0 (AA g s.heap.size)) 6 [(0, vr g 94), (1, vi v1), (2, vi v2), (3, vi v3), (4, vi v4), (5, vi q.1), (6, vi q.2)] [] σ) ?_ N _ hF h5 h6
    intro nx6 q ih6 hF
    obtain ⟨v5, v6⟩ := q
    intro h5 h6
    have hF : F_X12_daysOf_B6 N  nx6 v1 v2 v3 v4 v5 v6 σ = some res := hF
    unfold F_X12_daysOf_B6 at hF
    refine at_iload (pc := 6) C 6 dX12_daysOf_6 rfl ?_
    refine at_aload_n (pc := 8) C 0 dX12_daysOf_8 rfl rfl ?_
    refine at_geti (pc := 9) (jz := 30) C fw_12_220 kd94 rfl (Nat.le_of_ble_eq_true rfl) rfl rfl dX12_daysOf_9 ?_
    refine at_icmp_ge (pc := 12) (tgt := 124) C h6 (ok 94 30) dX12_daysOf_12 rfl (fun c1 => ?_) (fun c1 => ?_)
    · have hF := (if_pos c1).symm.trans hF
      refine at_iload (pc := 124) C 5 dX12_daysOf_124 rfl ?_
      obtain rfl := Option.some.inj hF
      exact at_iret (pc := 126) C hr hlk h5 ok dX12_daysOf_126
    · have hF := (if_neg c1).symm.trans hF
      have J118 : ∀ (v5 : Int) (v6 : Int), inR v5 → inR v6 → F_X12_daysOf_J118 N nx6 v1 v2 v3 v4 v5 v6 σ = some res → At p l e rm_X12_daysOf s m args below meth c 0 0 g 9 (MQ below (QI g s.heap.size res σ inR) args s 0 0 (AA g s.heap.size)) 118 [(0, vr g 94), (1, vi v1), (2, vi v2), (3, vi v3), (4, vi v4), (5, vi v5), (6, vi v6)] [] σ := by
        intro v5 v6 h5 h6 hF
        unfold F_X12_daysOf_J118 at hF
        refine at_iinc (pc := 118) (lv' := [(6, vi (ja v6 1)), (0, vr g 94), (1, vi v1), (2, vi v2), (3, vi v3), (4, vi v4), (5, vi v5)]) C 6 dX12_daysOf_118 rfl (Nat.le_of_ble_eq_true rfl) rfl ?_
        refine at_goto (pc := 121) (tgt := 6) C dX12_daysOf_121 rfl ?_
        refine at_sub (lv' := [(0, vr g 94), (1, vi v1), (2, vi v2), (3, vi v3), (4, vi v4), (5, vi v5), (6, vi (ja v6 1))]) [1, 2, 3, 4, 5, 6, 0] rfl ?_
        exact ih6 _ hF h5 (ja_R v6 1)
      refine at_aload_n (pc := 15) C 0 dX12_daysOf_15 rfl rfl ?_
      refine at_getr (pc := 16) (k' := 104) C 10 fw_12_42 kd94 rfl (Nat.le_of_ble_eq_true rfl) rfl rfl dX12_daysOf_16 ?_
      refine at_bipush (pc := 19) C dX12_daysOf_19 (by decide) ?_
      refine at_iload (pc := 21) C 6 dX12_daysOf_21 rfl ?_
      refine at_imul (pc := 23) C dX12_daysOf_23 ?_
      refine at_iload_n (pc := 24) C 1 dX12_daysOf_24 rfl rfl ?_
      refine at_iadd (pc := 25) C dX12_daysOf_25 ?_
      obtain ⟨b2, hF⟩ := inb_some hF
      refine at_iaload (pc := 26) C kd104 b2 dX12_daysOf_26 ?_
      refine at_iload_n (pc := 27) C 2 dX12_daysOf_27 rfl rfl ?_
      refine at_ishr (pc := 28) C dX12_daysOf_28 ?_
      refine at_iconst (pc := 29) C dX12_daysOf_29 ?_
      refine at_iand (pc := 30) C dX12_daysOf_30 ?_
      refine at_if_ne (pc := 31) (tgt := 37) C (jand_R (jshr (σ.1 104 (ja (jm 8 v6) v1)) v2) 1) dX12_daysOf_31 rfl (fun c3 => ?_) (fun c3 => ?_)
      · have hF := (if_neg c3).symm.trans hF
        have J59 : ∀ (v5 : Int) (v6 : Int) (t0 : Int), inR v5 → inR v6 → inR t0 → F_X12_daysOf_J59 N nx6 v1 v2 v3 v4 v5 v6 t0 σ = some res → At p l e rm_X12_daysOf s m args below meth c 0 0 g 9 (MQ below (QI g s.heap.size res σ inR) args s 0 0 (AA g s.heap.size)) 59 [(0, vr g 94), (1, vi v1), (2, vi v2), (3, vi v3), (4, vi v4), (5, vi v5), (6, vi v6)] [vi t0] σ := by
          intro v5 v6 t0 h5 h6 ht0 hF
          unfold F_X12_daysOf_J59 at hF
          have J93 : ∀ (v5 : Int) (v6 : Int) (v7 : Int) (t0 : Int), inR v5 → inR v6 → inR v7 → inR t0 → F_X12_daysOf_J93 N nx6 v1 v2 v3 v4 v5 v6 v7 t0 σ = some res → At p l e rm_X12_daysOf s m args below meth c 0 0 g 9 (MQ below (QI g s.heap.size res σ inR) args s 0 0 (AA g s.heap.size)) 93 [(0, vr g 94), (1, vi v1), (2, vi v2), (3, vi v3), (4, vi v4), (5, vi v5), (6, vi v6), (7, vi v7)] [vi t0] σ := by
            intro v5 v6 v7 t0 h5 h6 h7 ht0 hF
            unfold F_X12_daysOf_J93 at hF
            have J115 : ∀ (v6 : Int) (t0 : Int) (t1 : Int), inR v6 → inR t0 → inR t1 → F_X12_daysOf_J115 N nx6 v1 v2 v3 v4 v6 t0 t1 σ = some res → At p l e rm_X12_daysOf s m args below meth c 0 0 g 9 (MQ below (QI g s.heap.size res σ inR) args s 0 0 (AA g s.heap.size)) 115 [(0, vr g 94), (1, vi v1), (2, vi v2), (3, vi v3), (4, vi v4), (6, vi v6)] [vi t1, vi t0] σ := by
              intro v6 t0 t1 h6 ht0 ht1 hF
              unfold F_X12_daysOf_J115 at hF
              refine at_iadd (pc := 115) C dX12_daysOf_115 ?_
              refine at_istore (pc := 116) (lv' := [(5, vi (ja t0 t1)), (0, vr g 94), (1, vi v1), (2, vi v2), (3, vi v3), (4, vi v4), (6, vi v6)]) C dX12_daysOf_116 (Nat.le_of_ble_eq_true rfl) rfl ?_
              refine at_sub (lv' := [(0, vr g 94), (1, vi v1), (2, vi v2), (3, vi v3), (4, vi v4), (5, vi (ja t0 t1)), (6, vi v6)]) [1, 2, 3, 4, 5, 0, 6] rfl ?_
              exact J118 (ja t0 t1) v6 (ja_R t0 t1) h6 hF
            refine at_istore (pc := 93) (lv' := [(8, vi t0), (0, vr g 94), (1, vi v1), (2, vi v2), (3, vi v3), (4, vi v4), (5, vi v5), (6, vi v6), (7, vi v7)]) C dX12_daysOf_93 (Nat.le_of_ble_eq_true rfl) rfl ?_
            refine at_iload (pc := 95) C 6 dX12_daysOf_95 rfl ?_
            refine at_iload (pc := 97) C 0 dX12_daysOf_97 rfl ?_
            refine at_iload (pc := 99) C 8 dX12_daysOf_99 rfl ?_
            refine at_icmp_lt (pc := 101) (tgt := 114) C ht0 h7 dX12_daysOf_101 rfl (fun c4 => ?_) (fun c4 => ?_)
            · have hF := (if_pos c4).symm.trans hF
              refine at_iconst (pc := 114) C dX12_daysOf_114 ?_
              refine at_sub (lv' := [(0, vr g 94), (1, vi v1), (2, vi v2), (3, vi v3), (4, vi v4), (6, vi v6)]) [1, 2, 3, 4, 5, 7] rfl ?_
              exact J115 v6 v5 0 h6 h5 (isB.r (Or.inl rfl)) hF
            · have hF := (if_neg c4).symm.trans hF
              refine at_iload (pc := 104) C 0 dX12_daysOf_104 rfl ?_
              refine at_iload (pc := 106) C 8 dX12_daysOf_106 rfl ?_
              refine at_isub (pc := 108) C dX12_daysOf_108 ?_
              refine at_iconst (pc := 109) C dX12_daysOf_109 ?_
              refine at_iadd (pc := 110) C dX12_daysOf_110 ?_
              refine at_goto (pc := 111) (tgt := 115) C dX12_daysOf_111 rfl ?_
              refine at_sub (lv' := [(0, vr g 94), (1, vi v1), (2, vi v2), (3, vi v3), (4, vi v4), (6, vi v6)]) [1, 2, 3, 4, 5, 7] rfl ?_
              exact J115 v6 v5 (ja (js t0 v7) 1) h6 h5 (ja_R (js t0 v7) 1) hF
          refine at_istore (pc := 59) (lv' := [(7, vi t0), (0, vr g 94), (1, vi v1), (2, vi v2), (3, vi v3), (4, vi v4), (5, vi v5), (6, vi v6)]) C dX12_daysOf_59 (Nat.le_of_ble_eq_true rfl) rfl ?_
          refine at_aload_n (pc := 61) C 1 dX12_daysOf_61 rfl rfl ?_
          refine at_getr (pc := 62) (k' := 103) C 9 fw_12_39 kd94 rfl (Nat.le_of_ble_eq_true rfl) rfl rfl dX12_daysOf_62 ?_
          refine at_iload (pc := 65) C 7 dX12_daysOf_65 rfl ?_
          refine at_iconst (pc := 67) C dX12_daysOf_67 ?_
          refine at_iadd (pc := 68) C dX12_daysOf_68 ?_
          obtain ⟨b5, hF⟩ := inb_some hF
          refine at_iaload (pc := 69) C kd103 b5 dX12_daysOf_69 ?_
          refine at_iconst (pc := 70) C dX12_daysOf_70 ?_
          refine at_isub (pc := 71) C dX12_daysOf_71 ?_
          refine at_iload (pc := 72) C 5 dX12_daysOf_72 rfl ?_
          refine at_icmp_ge (pc := 74) (tgt := 91) C (js_R (σ.1 103 (ja v6 1)) 1) h4 dX12_daysOf_74 rfl (fun c6 => ?_) (fun c6 => ?_)
          · have hF := (if_pos c6).symm.trans hF
            refine at_iload (pc := 91) C 5 dX12_daysOf_91 rfl ?_
            refine at_sub (lv' := [(0, vr g 94), (1, vi v1), (2, vi v2), (3, vi v3), (4, vi v4), (5, vi v5), (6, vi v6), (7, vi t0)]) [1, 2, 3, 4, 5, 6, 7, 0] rfl ?_
            exact J93 v5 v6 t0 v4 h5 h6 ht0 h4 hF
          · have hF := (if_neg c6).symm.trans hF
            refine at_aload_n (pc := 77) C 1 dX12_daysOf_77 rfl rfl ?_
            refine at_getr (pc := 78) (k' := 103) C 9 fw_12_39 kd94 rfl (Nat.le_of_ble_eq_true rfl) rfl rfl dX12_daysOf_78 ?_
            refine at_iload (pc := 81) C 7 dX12_daysOf_81 rfl ?_
            refine at_iconst (pc := 83) C dX12_daysOf_83 ?_
            refine at_iadd (pc := 84) C dX12_daysOf_84 ?_
            refine at_iaload (pc := 85) C kd103 b5 dX12_daysOf_85 ?_
            refine at_iconst (pc := 86) C dX12_daysOf_86 ?_
            refine at_isub (pc := 87) C dX12_daysOf_87 ?_
            refine at_goto (pc := 88) (tgt := 93) C dX12_daysOf_88 rfl ?_
            refine at_sub (lv' := [(0, vr g 94), (1, vi v1), (2, vi v2), (3, vi v3), (4, vi v4), (5, vi v5), (6, vi v6), (7, vi t0)]) [1, 2, 3, 4, 5, 6, 7, 0] rfl ?_
            exact J93 v5 v6 t0 (js (σ.1 103 (ja v6 1)) 1) h5 h6 ht0 (js_R (σ.1 103 (ja v6 1)) 1) hF
        refine at_aload_n (pc := 37) C 0 dX12_daysOf_37 rfl rfl ?_
        refine at_getr (pc := 38) (k' := 103) C 9 fw_12_39 kd94 rfl (Nat.le_of_ble_eq_true rfl) rfl rfl dX12_daysOf_38 ?_
        refine at_iload (pc := 41) C 6 dX12_daysOf_41 rfl ?_
        obtain ⟨b7, hF⟩ := inb_some hF
        refine at_iaload (pc := 43) C kd103 b7 dX12_daysOf_43 ?_
        refine at_iload_n (pc := 44) C 3 dX12_daysOf_44 rfl rfl ?_
        refine at_icmp_le (pc := 45) (tgt := 58) C (ok 103 v6) h3 dX12_daysOf_45 rfl (fun c8 => ?_) (fun c8 => ?_)
        · have hF := (if_pos c8).symm.trans hF
          refine at_iload_n (pc := 58) C 3 dX12_daysOf_58 rfl rfl ?_
          exact J59 v5 v6 v3 h5 h6 h3 hF
        · have hF := (if_neg c8).symm.trans hF
          refine at_aload_n (pc := 48) C 0 dX12_daysOf_48 rfl rfl ?_
          refine at_getr (pc := 49) (k' := 103) C 9 fw_12_39 kd94 rfl (Nat.le_of_ble_eq_true rfl) rfl rfl dX12_daysOf_49 ?_
          refine at_iload (pc := 52) C 6 dX12_daysOf_52 rfl ?_
          refine at_iaload (pc := 54) C kd103 b7 dX12_daysOf_54 ?_
          refine at_goto (pc := 55) (tgt := 59) C dX12_daysOf_55 rfl ?_
          exact J59 v5 v6 (σ.1 103 v6) h5 h6 (ok 103 v6) hF
      · have hF := (if_pos c3).symm.trans hF
        refine at_goto (pc := 34) (tgt := 118) C dX12_daysOf_34 rfl ?_
        exact J118 v5 v6 h5 h6 hF
  refine at_sub (lv' := [(0, vr g 94), (1, vi v1), (2, vi v2), (3, vi v3), (4, vi v4), (5, vi 0), (6, vi 0)]) [2, 3, 4, 5, 6, 1, 0] rfl ?_
  exact L6 v1 v2 v3 v4 0 0 h1 h2 h3 h4 (isB.r (Or.inl rfl)) (isB.r (Or.inl rfl)) hF
abbrev rm_X12_firstDay : Room := { frames := 0, cells := 0, slots := 0, locals := 0 }
def F_X12_firstDay (N : Nat) (v1 : Int) (σ : Sto) : Option (Int) :=
  if v1 = (σ.1 94 31) then (some (σ.1 94 32)) else (inb (ja (jm 4 v1) 1) 96 (some (σ.1 98 (ja (jm 4 v1) 1))))
set_option maxHeartbeats 4000000 in
set_option maxRecDepth 100000 in
theorem c_X12_firstDay (l : Launch) (g : Geo) (N : Nat) (v1 : Int) (σ : Sto) (res : Int) (h1 : inR v1) (ok : OK σ) (hF : F_X12_firstDay N v1 σ = some res) : MtI l g yX12_firstDay cX12_firstDay 2 (some .int) rm_X12_firstDay [vr g 94, vi v1] σ res σ inR := by
  intro sz
  refine Met.ofAt (own := RX12) (QQ := fun z => QI g z res σ inR) (by decide +kernel) (Nat.le_of_ble_eq_true rfl) rfl ?_
  intro p e s m args below meth c C hr hlk
  show At p l e rm_X12_firstDay s m args below meth c 0 0 g 2 (MQ below (QI g s.heap.size res σ inR) args s 0 0 (AA g s.heap.size)) 0 [(0, vr g 94), (1, vi v1)] [] σ
  unfold F_X12_firstDay at hF
  refine at_iload_n (pc := 0) C 1 dX12_firstDay_0 rfl rfl ?_
  refine at_aload_n (pc := 1) C 0 dX12_firstDay_1 rfl rfl ?_
  refine at_geti (pc := 2) (jz := 31) C fw_12_45 kd94 rfl (Nat.le_of_ble_eq_true rfl) rfl rfl dX12_firstDay_2 ?_
  refine at_icmp_ne (pc := 5) (tgt := 15) C h1 (ok 94 31) dX12_firstDay_5 rfl (fun c1 => ?_) (fun c1 => ?_)
  · have hF := (if_neg c1).symm.trans hF
    refine at_aload_n (pc := 15) C 0 dX12_firstDay_15 rfl rfl ?_
    refine at_getr (pc := 16) (k' := 98) C 4 fw_12_23 kd94 rfl (Nat.le_of_ble_eq_true rfl) rfl rfl dX12_firstDay_16 ?_
    refine at_iconst (pc := 19) C dX12_firstDay_19 ?_
    refine at_iload_n (pc := 20) C 1 dX12_firstDay_20 rfl rfl ?_
    refine at_imul (pc := 21) C dX12_firstDay_21 ?_
    refine at_iconst (pc := 22) C dX12_firstDay_22 ?_
    refine at_iadd (pc := 23) C dX12_firstDay_23 ?_
    obtain ⟨b2, hF⟩ := inb_some hF
    refine at_iaload (pc := 24) C kd98 b2 dX12_firstDay_24 ?_
    obtain rfl := Option.some.inj hF
    exact at_iret (pc := 25) C hr hlk (ok 98 (ja (jm 4 v1) 1)) ok dX12_firstDay_25
  · have hF := (if_pos c1).symm.trans hF
    refine at_aload_n (pc := 8) C 0 dX12_firstDay_8 rfl rfl ?_
    refine at_geti (pc := 9) (jz := 32) C fw_12_230 kd94 rfl (Nat.le_of_ble_eq_true rfl) rfl rfl dX12_firstDay_9 ?_
    refine at_goto (pc := 12) (tgt := 25) C dX12_firstDay_12 rfl ?_
    obtain rfl := Option.some.inj hF
    exact at_iret (pc := 25) C hr hlk (ok 94 32) ok dX12_firstDay_25
abbrev rm_X12_lastDay : Room := { frames := 0, cells := 0, slots := 0, locals := 0 }
def F_X12_lastDay (N : Nat) (v1 : Int) (σ : Sto) : Option (Int) :=
  inb (ja (jm 4 v1) 2) 96 (some (σ.1 98 (ja (jm 4 v1) 2)))
set_option maxHeartbeats 4000000 in
set_option maxRecDepth 100000 in
theorem c_X12_lastDay (l : Launch) (g : Geo) (N : Nat) (v1 : Int) (σ : Sto) (res : Int) (h1 : inR v1) (ok : OK σ) (hF : F_X12_lastDay N v1 σ = some res) : MtI l g yX12_lastDay cX12_lastDay 2 (some .int) rm_X12_lastDay [vr g 94, vi v1] σ res σ inR := by
  intro sz
  refine Met.ofAt (own := RX12) (QQ := fun z => QI g z res σ inR) (by decide +kernel) (Nat.le_of_ble_eq_true rfl) rfl ?_
  intro p e s m args below meth c C hr hlk
  show At p l e rm_X12_lastDay s m args below meth c 0 0 g 2 (MQ below (QI g s.heap.size res σ inR) args s 0 0 (AA g s.heap.size)) 0 [(0, vr g 94), (1, vi v1)] [] σ
  unfold F_X12_lastDay at hF
  refine at_aload_n (pc := 0) C 0 dX12_lastDay_0 rfl rfl ?_
  refine at_getr (pc := 1) (k' := 98) C 4 fw_12_23 kd94 rfl (Nat.le_of_ble_eq_true rfl) rfl rfl dX12_lastDay_1 ?_
  refine at_iconst (pc := 4) C dX12_lastDay_4 ?_
  refine at_iload_n (pc := 5) C 1 dX12_lastDay_5 rfl rfl ?_
  refine at_imul (pc := 6) C dX12_lastDay_6 ?_
  refine at_iconst (pc := 7) C dX12_lastDay_7 ?_
  refine at_iadd (pc := 8) C dX12_lastDay_8 ?_
  obtain ⟨b1, hF⟩ := inb_some hF
  refine at_iaload (pc := 9) C kd98 b1 dX12_lastDay_9 ?_
  obtain rfl := Option.some.inj hF
  exact at_iret (pc := 10) C hr hlk (ok 98 (ja (jm 4 v1) 2)) ok dX12_lastDay_10
abbrev rm_X12_sharedOf : Room := { frames := 1, cells := 0, slots := 0, locals := 28 }
def F_X12_sharedOf_J53 (N : Nat)  (v1 : Int) (v2 : Int) (v3 : Int) (t0 : Int) (σ : Sto) : Option (Int) :=
  (F_X12_memberOf N v1 σ).bind (fun q1 => (F_X12_memberOf N v2 σ).bind (fun q2 => (F_X12_daysOf N q1 q2 v3 t0 σ).bind (fun q3 => some q3)))
def F_X12_sharedOf_J26 (N : Nat)  (v1 : Int) (v2 : Int) (t0 : Int) (σ : Sto) : Option (Int) :=
  (F_X12_lastDay N v1 σ).bind (fun q4 => (F_X12_lastDay N v2 σ).bind (fun q5 => if q5 ≤ q4 then ((F_X12_lastDay N v2 σ).bind (fun q7 => F_X12_sharedOf_J53 N  v1 v2 t0 q7 σ)) else ((F_X12_lastDay N v1 σ).bind (fun q8 => F_X12_sharedOf_J53 N  v1 v2 t0 q8 σ))))
def F_X12_sharedOf (N : Nat) (v1 : Int) (v2 : Int) (σ : Sto) : Option (Int) :=
  (F_X12_firstDay N v1 σ).bind (fun q9 => (F_X12_firstDay N v2 σ).bind (fun q10 => if q9 ≤ q10 then ((F_X12_firstDay N v2 σ).bind (fun q12 => F_X12_sharedOf_J26 N  v1 v2 q12 σ)) else ((F_X12_firstDay N v1 σ).bind (fun q13 => F_X12_sharedOf_J26 N  v1 v2 q13 σ))))
set_option maxHeartbeats 4000000 in
set_option maxRecDepth 100000 in
theorem c_X12_sharedOf (l : Launch) (g : Geo) (N : Nat) (v1 : Int) (v2 : Int) (σ : Sto) (res : Int) (h1 : inR v1) (h2 : inR v2) (ok : OK σ) (hF : F_X12_sharedOf N v1 v2 σ = some res) : MtI l g yX12_sharedOf cX12_sharedOf 5 (some .int) rm_X12_sharedOf [vr g 94, vi v1, vi v2] σ res σ inR := by
  intro sz
  refine Met.ofAt (own := RX12) (QQ := fun z => QI g z res σ inR) (by decide +kernel) (Nat.le_of_ble_eq_true rfl) rfl ?_
  intro p e s m args below meth c C hr hlk
  show At p l e rm_X12_sharedOf s m args below meth c 0 0 g 5 (MQ below (QI g s.heap.size res σ inR) args s 0 0 (AA g s.heap.size)) 0 [(0, vr g 94), (1, vi v1), (2, vi v2)] [] σ
  unfold F_X12_sharedOf at hF
  have J26 : ∀ (v1 : Int) (v2 : Int) (t0 : Int), inR v1 → inR v2 → inR t0 → F_X12_sharedOf_J26 N  v1 v2 t0 σ = some res → At p l e rm_X12_sharedOf s m args below meth c 0 0 g 5 (MQ below (QI g s.heap.size res σ inR) args s 0 0 (AA g s.heap.size)) 26 [(0, vr g 94), (1, vi v1), (2, vi v2)] [vi t0] σ := by
    intro v1 v2 t0 h1 h2 ht0 hF
    unfold F_X12_sharedOf_J26 at hF
    have J53 : ∀ (v1 : Int) (v2 : Int) (v3 : Int) (t0 : Int), inR v1 → inR v2 → inR v3 → inR t0 → F_X12_sharedOf_J53 N  v1 v2 v3 t0 σ = some res → At p l e rm_X12_sharedOf s m args below meth c 0 0 g 5 (MQ below (QI g s.heap.size res σ inR) args s 0 0 (AA g s.heap.size)) 53 [(0, vr g 94), (1, vi v1), (2, vi v2), (3, vi v3)] [vi t0] σ := by
      intro v1 v2 v3 t0 h1 h2 h3 ht0 hF
      unfold F_X12_sharedOf_J53 at hF
      refine at_istore (pc := 53) (lv' := [(4, vi t0), (0, vr g 94), (1, vi v1), (2, vi v2), (3, vi v3)]) C dX12_sharedOf_53 (Nat.le_of_ble_eq_true rfl) rfl ?_
      refine at_aload_n (pc := 55) C 1 dX12_sharedOf_55 rfl rfl ?_
      refine at_aload_n (pc := 56) C 1 dX12_sharedOf_56 rfl rfl ?_
      refine at_iload_n (pc := 57) C 2 dX12_sharedOf_57 rfl rfl ?_
      obtain ⟨q1, eq1, hF⟩ := bind_some' hF
      refine at_callV (pc := 58) (ci := 12) C (c_X12_memberOf l g N v1 σ q1 h1 ok eq1) kv_X12_memberOf w1593 kd94 rfl rfl rfl rfl (Nat.le_of_ble_eq_true rfl) ⟨rfl, rfl, (Nat.le_of_ble_eq_true rfl), (Nat.le_of_ble_eq_true rfl)⟩ dX12_sharedOf_58 (fun tq1 okq1 => ?_)
      refine at_aload_n (pc := 61) C 1 dX12_sharedOf_61 rfl rfl ?_
      refine at_iload_n (pc := 62) C 3 dX12_sharedOf_62 rfl rfl ?_
      obtain ⟨q2, eq2, hF⟩ := bind_some' hF
      refine at_callV (pc := 63) (ci := 12) C (c_X12_memberOf l g N v2 σ q2 h2 ok eq2) kv_X12_memberOf w1593 kd94 rfl rfl rfl rfl (Nat.le_of_ble_eq_true rfl) ⟨rfl, rfl, (Nat.le_of_ble_eq_true rfl), (Nat.le_of_ble_eq_true rfl)⟩ dX12_sharedOf_63 (fun tq2 okq2 => ?_)
      refine at_iload_n (pc := 66) C 4 dX12_sharedOf_66 rfl rfl ?_
      refine at_iload (pc := 67) C 0 dX12_sharedOf_67 rfl ?_
      obtain ⟨q3, eq3, hF⟩ := bind_some' hF
      refine at_callV (pc := 69) (ci := 12) C (c_X12_daysOf l g N q1 q2 v3 t0 σ q3 tq1 tq2 h3 ht0 ok eq3) kv_X12_daysOf w1638 kd94 rfl rfl rfl rfl (Nat.le_of_ble_eq_true rfl) ⟨rfl, rfl, (Nat.le_of_ble_eq_true rfl), (Nat.le_of_ble_eq_true rfl)⟩ dX12_sharedOf_69 (fun tq3 okq3 => ?_)
      obtain rfl := Option.some.inj hF
      exact at_iret (pc := 72) C hr hlk tq3 ok dX12_sharedOf_72
    refine at_istore_n (pc := 26) (lv' := [(3, vi t0), (0, vr g 94), (1, vi v1), (2, vi v2)]) C dX12_sharedOf_26 rfl (Nat.le_of_ble_eq_true rfl) rfl ?_
    refine at_aload_n (pc := 27) C 1 dX12_sharedOf_27 rfl rfl ?_
    refine at_iload_n (pc := 28) C 2 dX12_sharedOf_28 rfl rfl ?_
    obtain ⟨q4, eq4, hF⟩ := bind_some' hF
    refine at_callV (pc := 29) (ci := 12) C (c_X12_lastDay l g N v1 σ q4 h1 ok eq4) kv_X12_lastDay w1601 kd94 rfl rfl rfl rfl (Nat.le_of_ble_eq_true rfl) ⟨rfl, rfl, (Nat.le_of_ble_eq_true rfl), (Nat.le_of_ble_eq_true rfl)⟩ dX12_sharedOf_29 (fun tq4 okq4 => ?_)
    refine at_aload_n (pc := 32) C 1 dX12_sharedOf_32 rfl rfl ?_
    refine at_iload_n (pc := 33) C 3 dX12_sharedOf_33 rfl rfl ?_
    obtain ⟨q5, eq5, hF⟩ := bind_some' hF
    refine at_callV (pc := 34) (ci := 12) C (c_X12_lastDay l g N v2 σ q5 h2 ok eq5) kv_X12_lastDay w1601 kd94 rfl rfl rfl rfl (Nat.le_of_ble_eq_true rfl) ⟨rfl, rfl, (Nat.le_of_ble_eq_true rfl), (Nat.le_of_ble_eq_true rfl)⟩ dX12_sharedOf_34 (fun tq5 okq5 => ?_)
    refine at_icmp_ge (pc := 37) (tgt := 48) C tq4 tq5 dX12_sharedOf_37 rfl (fun c6 => ?_) (fun c6 => ?_)
    · have hF := (if_pos c6).symm.trans hF
      refine at_aload_n (pc := 48) C 1 dX12_sharedOf_48 rfl rfl ?_
      refine at_iload_n (pc := 49) C 3 dX12_sharedOf_49 rfl rfl ?_
      obtain ⟨q7, eq7, hF⟩ := bind_some' hF
      refine at_callV (pc := 50) (ci := 12) C (c_X12_lastDay l g N v2 σ q7 h2 ok eq7) kv_X12_lastDay w1601 kd94 rfl rfl rfl rfl (Nat.le_of_ble_eq_true rfl) ⟨rfl, rfl, (Nat.le_of_ble_eq_true rfl), (Nat.le_of_ble_eq_true rfl)⟩ dX12_sharedOf_50 (fun tq7 okq7 => ?_)
      refine at_sub (lv' := [(0, vr g 94), (1, vi v1), (2, vi v2), (3, vi t0)]) [1, 2, 3, 0] rfl ?_
      exact J53 v1 v2 t0 q7 h1 h2 ht0 tq7 hF
    · have hF := (if_neg c6).symm.trans hF
      refine at_aload_n (pc := 40) C 1 dX12_sharedOf_40 rfl rfl ?_
      refine at_iload_n (pc := 41) C 2 dX12_sharedOf_41 rfl rfl ?_
      obtain ⟨q8, eq8, hF⟩ := bind_some' hF
      refine at_callV (pc := 42) (ci := 12) C (c_X12_lastDay l g N v1 σ q8 h1 ok eq8) kv_X12_lastDay w1601 kd94 rfl rfl rfl rfl (Nat.le_of_ble_eq_true rfl) ⟨rfl, rfl, (Nat.le_of_ble_eq_true rfl), (Nat.le_of_ble_eq_true rfl)⟩ dX12_sharedOf_42 (fun tq8 okq8 => ?_)
      refine at_goto (pc := 45) (tgt := 53) C dX12_sharedOf_45 rfl ?_
      refine at_sub (lv' := [(0, vr g 94), (1, vi v1), (2, vi v2), (3, vi t0)]) [1, 2, 3, 0] rfl ?_
      exact J53 v1 v2 t0 q8 h1 h2 ht0 tq8 hF
  refine at_aload_n (pc := 0) C 0 dX12_sharedOf_0 rfl rfl ?_
  refine at_iload_n (pc := 1) C 1 dX12_sharedOf_1 rfl rfl ?_
  obtain ⟨q9, eq9, hF⟩ := bind_some' hF
  refine at_callV (pc := 2) (ci := 12) C (c_X12_firstDay l g N v1 σ q9 h1 ok eq9) kv_X12_firstDay w1597 kd94 rfl rfl rfl rfl (Nat.le_of_ble_eq_true rfl) ⟨rfl, rfl, (Nat.le_of_ble_eq_true rfl), (Nat.le_of_ble_eq_true rfl)⟩ dX12_sharedOf_2 (fun tq9 okq9 => ?_)
  refine at_aload_n (pc := 5) C 0 dX12_sharedOf_5 rfl rfl ?_
  refine at_iload_n (pc := 6) C 2 dX12_sharedOf_6 rfl rfl ?_
  obtain ⟨q10, eq10, hF⟩ := bind_some' hF
  refine at_callV (pc := 7) (ci := 12) C (c_X12_firstDay l g N v2 σ q10 h2 ok eq10) kv_X12_firstDay w1597 kd94 rfl rfl rfl rfl (Nat.le_of_ble_eq_true rfl) ⟨rfl, rfl, (Nat.le_of_ble_eq_true rfl), (Nat.le_of_ble_eq_true rfl)⟩ dX12_sharedOf_7 (fun tq10 okq10 => ?_)
  refine at_icmp_le (pc := 10) (tgt := 21) C tq9 tq10 dX12_sharedOf_10 rfl (fun c11 => ?_) (fun c11 => ?_)
  · have hF := (if_pos c11).symm.trans hF
    refine at_aload_n (pc := 21) C 0 dX12_sharedOf_21 rfl rfl ?_
    refine at_iload_n (pc := 22) C 2 dX12_sharedOf_22 rfl rfl ?_
    obtain ⟨q12, eq12, hF⟩ := bind_some' hF
    refine at_callV (pc := 23) (ci := 12) C (c_X12_firstDay l g N v2 σ q12 h2 ok eq12) kv_X12_firstDay w1597 kd94 rfl rfl rfl rfl (Nat.le_of_ble_eq_true rfl) ⟨rfl, rfl, (Nat.le_of_ble_eq_true rfl), (Nat.le_of_ble_eq_true rfl)⟩ dX12_sharedOf_23 (fun tq12 okq12 => ?_)
    exact J26 v1 v2 q12 h1 h2 tq12 hF
  · have hF := (if_neg c11).symm.trans hF
    refine at_aload_n (pc := 13) C 0 dX12_sharedOf_13 rfl rfl ?_
    refine at_iload_n (pc := 14) C 1 dX12_sharedOf_14 rfl rfl ?_
    obtain ⟨q13, eq13, hF⟩ := bind_some' hF
    refine at_callV (pc := 15) (ci := 12) C (c_X12_firstDay l g N v1 σ q13 h1 ok eq13) kv_X12_firstDay w1597 kd94 rfl rfl rfl rfl (Nat.le_of_ble_eq_true rfl) ⟨rfl, rfl, (Nat.le_of_ble_eq_true rfl), (Nat.le_of_ble_eq_true rfl)⟩ dX12_sharedOf_15 (fun tq13 okq13 => ?_)
    refine at_goto (pc := 18) (tgt := 26) C dX12_sharedOf_18 rfl ?_
    exact J26 v1 v2 q13 h1 h2 tq13 hF
abbrev rm_X12_isCarry : Room := { frames := 1, cells := 0, slots := 0, locals := 21 }
def F_X12_isCarry (N : Nat) (v1 : Int) (v2 : Int) (σ : Sto) : Option (Int) :=
  (F_X12_memberOf N v1 σ).bind (fun q1 => (F_X12_memberOf N v2 σ).bind (fun q2 => if q1 = q2 then (some 1) else (some 0)))
set_option maxHeartbeats 4000000 in
set_option maxRecDepth 100000 in
theorem c_X12_isCarry (l : Launch) (g : Geo) (N : Nat) (v1 : Int) (v2 : Int) (σ : Sto) (res : Int) (h1 : inR v1) (h2 : inR v2) (ok : OK σ) (hF : F_X12_isCarry N v1 v2 σ = some res) : MtI l g yX12_isCarry cX12_isCarry 3 (some .boolean) rm_X12_isCarry [vr g 94, vi v1, vi v2] σ res σ isB := by
  intro sz
  refine Met.ofAt (own := RX12) (QQ := fun z => QI g z res σ isB) (by decide +kernel) (Nat.le_of_ble_eq_true rfl) rfl ?_
  intro p e s m args below meth c C hr hlk
  show At p l e rm_X12_isCarry s m args below meth c 0 0 g 3 (MQ below (QI g s.heap.size res σ isB) args s 0 0 (AA g s.heap.size)) 0 [(0, vr g 94), (1, vi v1), (2, vi v2)] [] σ
  unfold F_X12_isCarry at hF
  refine at_aload_n (pc := 0) C 0 dX12_isCarry_0 rfl rfl ?_
  refine at_iload_n (pc := 1) C 1 dX12_isCarry_1 rfl rfl ?_
  obtain ⟨q1, eq1, hF⟩ := bind_some' hF
  refine at_callV (pc := 2) (ci := 12) C (c_X12_memberOf l g N v1 σ q1 h1 ok eq1) kv_X12_memberOf w1593 kd94 rfl rfl rfl rfl (Nat.le_of_ble_eq_true rfl) ⟨rfl, rfl, (Nat.le_of_ble_eq_true rfl), (Nat.le_of_ble_eq_true rfl)⟩ dX12_isCarry_2 (fun tq1 okq1 => ?_)
  refine at_aload_n (pc := 5) C 0 dX12_isCarry_5 rfl rfl ?_
  refine at_iload_n (pc := 6) C 2 dX12_isCarry_6 rfl rfl ?_
  obtain ⟨q2, eq2, hF⟩ := bind_some' hF
  refine at_callV (pc := 7) (ci := 12) C (c_X12_memberOf l g N v2 σ q2 h2 ok eq2) kv_X12_memberOf w1593 kd94 rfl rfl rfl rfl (Nat.le_of_ble_eq_true rfl) ⟨rfl, rfl, (Nat.le_of_ble_eq_true rfl), (Nat.le_of_ble_eq_true rfl)⟩ dX12_isCarry_7 (fun tq2 okq2 => ?_)
  refine at_icmp_ne (pc := 10) (tgt := 17) C tq1 tq2 dX12_isCarry_10 rfl (fun c3 => ?_) (fun c3 => ?_)
  · have hF := (if_neg c3).symm.trans hF
    refine at_iconst (pc := 17) C dX12_isCarry_17 ?_
    obtain rfl := Option.some.inj hF
    exact at_zret (pc := 18) C hr hlk (Or.inl rfl) ok dX12_isCarry_18
  · have hF := (if_pos c3).symm.trans hF
    refine at_iconst (pc := 13) C dX12_isCarry_13 ?_
    refine at_goto (pc := 14) (tgt := 18) C dX12_isCarry_14 rfl ?_
    obtain rfl := Option.some.inj hF
    exact at_zret (pc := 18) C hr hlk (Or.inr rfl) ok dX12_isCarry_18
abbrev rm_X12_isLink : Room := { frames := 2, cells := 0, slots := 0, locals := 43 }
def F_X12_isLink_J66 (N : Nat)   (σ : Sto) : Option (Int) :=
  some 0
def F_X12_isLink_J62 (N : Nat)   (σ : Sto) : Option (Int) :=
  some 1
def F_X12_isLink (N : Nat) (v1 : Int) (v2 : Int) (σ : Sto) : Option (Int) :=
  (F_X12_isPeriod N v1 σ).bind (fun q1 => if q1 = 0 then (F_X12_isLink_J66 N   σ) else ((F_X12_isPeriod N v2 σ).bind (fun q3 => if q3 = 0 then (F_X12_isLink_J66 N   σ) else ((F_X12_result N v1 σ).bind (fun q5 => if 0 ≤ q5 then (F_X12_isLink_J66 N   σ) else ((F_X12_result N v2 σ).bind (fun q7 => if q7 ≤ 0 then (F_X12_isLink_J66 N   σ) else ((F_X12_isCarry N v1 v2 σ).bind (fun q9 => if q9 = 0 then (F_X12_isLink_J62 N   σ) else (if (σ.1 94 33) = 1 then ((F_X12_firstDay N v2 σ).bind (fun q12 => (F_X12_lastDay N v1 σ).bind (fun q13 => if q12 ≤ q13 then (F_X12_isLink_J66 N   σ) else (F_X12_isLink_J62 N   σ)))) else (F_X12_isLink_J66 N   σ)))))))))))
set_option maxHeartbeats 4000000 in
set_option maxRecDepth 100000 in
theorem c_X12_isLink (l : Launch) (g : Geo) (N : Nat) (v1 : Int) (v2 : Int) (σ : Sto) (res : Int) (h1 : inR v1) (h2 : inR v2) (ok : OK σ) (hF : F_X12_isLink N v1 v2 σ = some res) : MtI l g yX12_isLink cX12_isLink 3 (some .boolean) rm_X12_isLink [vr g 94, vi v1, vi v2] σ res σ isB := by
  intro sz
  refine Met.ofAt (own := RX12) (QQ := fun z => QI g z res σ isB) (by decide +kernel) (Nat.le_of_ble_eq_true rfl) rfl ?_
  intro p e s m args below meth c C hr hlk
  show At p l e rm_X12_isLink s m args below meth c 0 0 g 3 (MQ below (QI g s.heap.size res σ isB) args s 0 0 (AA g s.heap.size)) 0 [(0, vr g 94), (1, vi v1), (2, vi v2)] [] σ
  unfold F_X12_isLink at hF
  have J66 : F_X12_isLink_J66 N   σ = some res → At p l e rm_X12_isLink s m args below meth c 0 0 g 3 (MQ below (QI g s.heap.size res σ isB) args s 0 0 (AA g s.heap.size)) 66 [] [] σ := by
    intro   hF
    unfold F_X12_isLink_J66 at hF
    refine at_iconst (pc := 66) C dX12_isLink_66 ?_
    obtain rfl := Option.some.inj hF
    exact at_zret (pc := 67) C hr hlk (Or.inl rfl) ok dX12_isLink_67
  refine at_aload_n (pc := 0) C 0 dX12_isLink_0 rfl rfl ?_
  refine at_iload_n (pc := 1) C 1 dX12_isLink_1 rfl rfl ?_
  obtain ⟨q1, eq1, hF⟩ := bind_some' hF
  refine at_callV (pc := 2) (ci := 12) C (c_X12_isPeriod l g N v1 σ q1 h1 ok eq1) kv_X12_isPeriod w1581 kd94 rfl rfl rfl rfl (Nat.le_of_ble_eq_true rfl) ⟨rfl, rfl, (Nat.le_of_ble_eq_true rfl), (Nat.le_of_ble_eq_true rfl)⟩ dX12_isLink_2 (fun tq1 okq1 => ?_)
  refine at_if_eq (pc := 5) (tgt := 66) C (isB.r tq1) dX12_isLink_5 rfl (fun c2 => ?_) (fun c2 => ?_)
  · have hF := (if_pos c2).symm.trans hF
    refine at_sub (lv' := []) [] rfl ?_
    exact J66  hF
  · have hF := (if_neg c2).symm.trans hF
    refine at_aload_n (pc := 8) C 0 dX12_isLink_8 rfl rfl ?_
    refine at_iload_n (pc := 9) C 2 dX12_isLink_9 rfl rfl ?_
    obtain ⟨q3, eq3, hF⟩ := bind_some' hF
    refine at_callV (pc := 10) (ci := 12) C (c_X12_isPeriod l g N v2 σ q3 h2 ok eq3) kv_X12_isPeriod w1581 kd94 rfl rfl rfl rfl (Nat.le_of_ble_eq_true rfl) ⟨rfl, rfl, (Nat.le_of_ble_eq_true rfl), (Nat.le_of_ble_eq_true rfl)⟩ dX12_isLink_10 (fun tq3 okq3 => ?_)
    refine at_if_eq (pc := 13) (tgt := 66) C (isB.r tq3) dX12_isLink_13 rfl (fun c4 => ?_) (fun c4 => ?_)
    · have hF := (if_pos c4).symm.trans hF
      refine at_sub (lv' := []) [] rfl ?_
      exact J66  hF
    · have hF := (if_neg c4).symm.trans hF
      refine at_aload_n (pc := 16) C 0 dX12_isLink_16 rfl rfl ?_
      refine at_iload_n (pc := 17) C 1 dX12_isLink_17 rfl rfl ?_
      obtain ⟨q5, eq5, hF⟩ := bind_some' hF
      refine at_callV (pc := 18) (ci := 12) C (c_X12_result l g N v1 σ q5 h1 ok eq5) kv_X12_result w1585 kd94 rfl rfl rfl rfl (Nat.le_of_ble_eq_true rfl) ⟨rfl, rfl, (Nat.le_of_ble_eq_true rfl), (Nat.le_of_ble_eq_true rfl)⟩ dX12_isLink_18 (fun tq5 okq5 => ?_)
      refine at_if_ge (pc := 21) (tgt := 66) C tq5 dX12_isLink_21 rfl (fun c6 => ?_) (fun c6 => ?_)
      · have hF := (if_pos c6).symm.trans hF
        refine at_sub (lv' := []) [] rfl ?_
        exact J66  hF
      · have hF := (if_neg c6).symm.trans hF
        refine at_aload_n (pc := 24) C 0 dX12_isLink_24 rfl rfl ?_
        refine at_iload_n (pc := 25) C 2 dX12_isLink_25 rfl rfl ?_
        obtain ⟨q7, eq7, hF⟩ := bind_some' hF
        refine at_callV (pc := 26) (ci := 12) C (c_X12_result l g N v2 σ q7 h2 ok eq7) kv_X12_result w1585 kd94 rfl rfl rfl rfl (Nat.le_of_ble_eq_true rfl) ⟨rfl, rfl, (Nat.le_of_ble_eq_true rfl), (Nat.le_of_ble_eq_true rfl)⟩ dX12_isLink_26 (fun tq7 okq7 => ?_)
        refine at_if_le (pc := 29) (tgt := 66) C tq7 dX12_isLink_29 rfl (fun c8 => ?_) (fun c8 => ?_)
        · have hF := (if_pos c8).symm.trans hF
          refine at_sub (lv' := []) [] rfl ?_
          exact J66  hF
        · have hF := (if_neg c8).symm.trans hF
          have J62 : F_X12_isLink_J62 N   σ = some res → At p l e rm_X12_isLink s m args below meth c 0 0 g 3 (MQ below (QI g s.heap.size res σ isB) args s 0 0 (AA g s.heap.size)) 62 [] [] σ := by
            intro   hF
            unfold F_X12_isLink_J62 at hF
            refine at_iconst (pc := 62) C dX12_isLink_62 ?_
            refine at_goto (pc := 63) (tgt := 67) C dX12_isLink_63 rfl ?_
            obtain rfl := Option.some.inj hF
            exact at_zret (pc := 67) C hr hlk (Or.inr rfl) ok dX12_isLink_67
          refine at_aload_n (pc := 32) C 0 dX12_isLink_32 rfl rfl ?_
          refine at_iload_n (pc := 33) C 1 dX12_isLink_33 rfl rfl ?_
          refine at_iload_n (pc := 34) C 2 dX12_isLink_34 rfl rfl ?_
          obtain ⟨q9, eq9, hF⟩ := bind_some' hF
          refine at_callV (pc := 35) (ci := 12) C (c_X12_isCarry l g N v1 v2 σ q9 h1 h2 ok eq9) kv_X12_isCarry w1589 kd94 rfl rfl rfl rfl (Nat.le_of_ble_eq_true rfl) ⟨rfl, rfl, (Nat.le_of_ble_eq_true rfl), (Nat.le_of_ble_eq_true rfl)⟩ dX12_isLink_35 (fun tq9 okq9 => ?_)
          refine at_if_eq (pc := 38) (tgt := 62) C (isB.r tq9) dX12_isLink_38 rfl (fun c10 => ?_) (fun c10 => ?_)
          · have hF := (if_pos c10).symm.trans hF
            refine at_sub (lv' := []) [] rfl ?_
            exact J62  hF
          · have hF := (if_neg c10).symm.trans hF
            refine at_aload_n (pc := 41) C 0 dX12_isLink_41 rfl rfl ?_
            refine at_geti (pc := 42) (jz := 33) C fw_12_145 kd94 rfl (Nat.le_of_ble_eq_true rfl) rfl rfl dX12_isLink_42 ?_
            refine at_iconst (pc := 45) C dX12_isLink_45 ?_
            refine at_icmp_ne (pc := 46) (tgt := 66) C (ok 94 33) (isB.r (Or.inr rfl)) dX12_isLink_46 rfl (fun c11 => ?_) (fun c11 => ?_)
            · have hF := (if_neg c11).symm.trans hF
              refine at_sub (lv' := []) [] rfl ?_
              exact J66  hF
            · have hF := (if_pos c11).symm.trans hF
              refine at_aload_n (pc := 49) C 0 dX12_isLink_49 rfl rfl ?_
              refine at_iload_n (pc := 50) C 2 dX12_isLink_50 rfl rfl ?_
              obtain ⟨q12, eq12, hF⟩ := bind_some' hF
              refine at_callV (pc := 51) (ci := 12) C (c_X12_firstDay l g N v2 σ q12 h2 ok eq12) kv_X12_firstDay w1597 kd94 rfl rfl rfl rfl (Nat.le_of_ble_eq_true rfl) ⟨rfl, rfl, (Nat.le_of_ble_eq_true rfl), (Nat.le_of_ble_eq_true rfl)⟩ dX12_isLink_51 (fun tq12 okq12 => ?_)
              refine at_aload_n (pc := 54) C 0 dX12_isLink_54 rfl rfl ?_
              refine at_iload_n (pc := 55) C 1 dX12_isLink_55 rfl rfl ?_
              obtain ⟨q13, eq13, hF⟩ := bind_some' hF
              refine at_callV (pc := 56) (ci := 12) C (c_X12_lastDay l g N v1 σ q13 h1 ok eq13) kv_X12_lastDay w1601 kd94 rfl rfl rfl rfl (Nat.le_of_ble_eq_true rfl) ⟨rfl, rfl, (Nat.le_of_ble_eq_true rfl), (Nat.le_of_ble_eq_true rfl)⟩ dX12_isLink_56 (fun tq13 okq13 => ?_)
              refine at_icmp_le (pc := 59) (tgt := 66) C tq12 tq13 dX12_isLink_59 rfl (fun c14 => ?_) (fun c14 => ?_)
              · have hF := (if_pos c14).symm.trans hF
                refine at_sub (lv' := []) [] rfl ?_
                exact J66  hF
              · have hF := (if_neg c14).symm.trans hF
                refine at_sub (lv' := []) [] rfl ?_
                exact J62  hF
abbrev rm_X12_boundOf : Room := { frames := 2, cells := 0, slots := 0, locals := 52 }
def F_X12_boundOf (N : Nat) (v1 : Int) (v2 : Int) (σ : Sto) : Option (Int) :=
  (F_X12_isCarry N v1 v2 σ).bind (fun q1 => if q1 = 0 then ((F_X12_sharedOf N v1 v2 σ).bind (fun q3 => (F_X12_result N v1 σ).bind (fun q4 => (F_X12_lastDay N v1 σ).bind (fun q5 => (F_X12_firstDay N v1 σ).bind (fun q6 => grd (¬ (ja (js q5 q6) 1) = 0) inferInstance ((F_X12_result N v2 σ).bind (fun q8 => (F_X12_lastDay N v2 σ).bind (fun q9 => (F_X12_firstDay N v2 σ).bind (fun q10 => grd (¬ (ja (js q9 q10) 1) = 0) inferInstance (if 0 ≤ (jlcmp (jld (jlm (jlneg q4) q3) (ja (js q5 q6) 1)) (jld (jlm q8 q3) (ja (js q9 q10) 1))) then (some (jl2i (jld (jlm q8 q3) (ja (js q9 q10) 1)))) else (some (jl2i (jld (jlm (jlneg q4) q3) (ja (js q5 q6) 1)))))))))))))) else ((F_X12_result N v1 σ).bind (fun q13 => (F_X12_result N v2 σ).bind (fun q14 => if q14 ≤ (jneg q13) then ((F_X12_result N v2 σ).bind (fun q16 => some q16)) else ((F_X12_result N v1 σ).bind (fun q17 => some (jneg q17)))))))
set_option maxHeartbeats 4000000 in
set_option maxRecDepth 100000 in
theorem c_X12_boundOf (l : Launch) (g : Geo) (N : Nat) (v1 : Int) (v2 : Int) (σ : Sto) (res : Int) (h1 : inR v1) (h2 : inR v2) (ok : OK σ) (hF : F_X12_boundOf N v1 v2 σ = some res) : MtI l g yX12_boundOf cX12_boundOf 8 (some .int) rm_X12_boundOf [vr g 94, vi v1, vi v2] σ res σ inR := by
  intro sz
  refine Met.ofAt (own := RX12) (QQ := fun z => QI g z res σ inR) (by decide +kernel) (Nat.le_of_ble_eq_true rfl) rfl ?_
  intro p e s m args below meth c C hr hlk
  show At p l e rm_X12_boundOf s m args below meth c 0 0 g 8 (MQ below (QI g s.heap.size res σ inR) args s 0 0 (AA g s.heap.size)) 0 [(0, vr g 94), (1, vi v1), (2, vi v2)] [] σ
  unfold F_X12_boundOf at hF
  refine at_aload_n (pc := 0) C 0 dX12_boundOf_0 rfl rfl ?_
  refine at_iload_n (pc := 1) C 1 dX12_boundOf_1 rfl rfl ?_
  refine at_iload_n (pc := 2) C 2 dX12_boundOf_2 rfl rfl ?_
  obtain ⟨q1, eq1, hF⟩ := bind_some' hF
  refine at_callV (pc := 3) (ci := 12) C (c_X12_isCarry l g N v1 v2 σ q1 h1 h2 ok eq1) kv_X12_isCarry w1589 kd94 rfl rfl rfl rfl (Nat.le_of_ble_eq_true rfl) ⟨rfl, rfl, (Nat.le_of_ble_eq_true rfl), (Nat.le_of_ble_eq_true rfl)⟩ dX12_boundOf_3 (fun tq1 okq1 => ?_)
  refine at_if_eq (pc := 6) (tgt := 38) C (isB.r tq1) dX12_boundOf_6 rfl (fun c2 => ?_) (fun c2 => ?_)
  · have hF := (if_pos c2).symm.trans hF
    refine at_aload_n (pc := 38) C 0 dX12_boundOf_38 rfl rfl ?_
    refine at_iload_n (pc := 39) C 1 dX12_boundOf_39 rfl rfl ?_
    refine at_iload_n (pc := 40) C 2 dX12_boundOf_40 rfl rfl ?_
    obtain ⟨q3, eq3, hF⟩ := bind_some' hF
    refine at_callV (pc := 41) (ci := 12) C (c_X12_sharedOf l g N v1 v2 σ q3 h1 h2 ok eq3) kv_X12_sharedOf w1634 kd94 rfl rfl rfl rfl (Nat.le_of_ble_eq_true rfl) ⟨rfl, rfl, (Nat.le_of_ble_eq_true rfl), (Nat.le_of_ble_eq_true rfl)⟩ dX12_boundOf_41 (fun tq3 okq3 => ?_)
    refine at_istore_n (pc := 44) (lv' := [(3, vi q3), (0, vr g 94), (1, vi v1), (2, vi v2)]) C dX12_boundOf_44 rfl (Nat.le_of_ble_eq_true rfl) rfl ?_
    refine at_aload_n (pc := 45) C 1 dX12_boundOf_45 rfl rfl ?_
    refine at_iload_n (pc := 46) C 2 dX12_boundOf_46 rfl rfl ?_
    obtain ⟨q4, eq4, hF⟩ := bind_some' hF
    refine at_callV (pc := 47) (ci := 12) C (c_X12_result l g N v1 σ q4 h1 ok eq4) kv_X12_result w1585 kd94 rfl rfl rfl rfl (Nat.le_of_ble_eq_true rfl) ⟨rfl, rfl, (Nat.le_of_ble_eq_true rfl), (Nat.le_of_ble_eq_true rfl)⟩ dX12_boundOf_47 (fun tq4 okq4 => ?_)
    refine at_i2l (pc := 50) C tq4 dX12_boundOf_50 ?_
    refine at_lneg (pc := 51) C dX12_boundOf_51 ?_
    refine at_iload_n (pc := 52) C 0 dX12_boundOf_52 rfl rfl ?_
    refine at_i2l (pc := 53) C tq3 dX12_boundOf_53 ?_
    refine at_lmul (pc := 54) C dX12_boundOf_54 ?_
    refine at_aload_n (pc := 55) C 1 dX12_boundOf_55 rfl rfl ?_
    refine at_iload_n (pc := 56) C 2 dX12_boundOf_56 rfl rfl ?_
    obtain ⟨q5, eq5, hF⟩ := bind_some' hF
    refine at_callV (pc := 57) (ci := 12) C (c_X12_lastDay l g N v1 σ q5 h1 ok eq5) kv_X12_lastDay w1601 kd94 rfl rfl rfl rfl (Nat.le_of_ble_eq_true rfl) ⟨rfl, rfl, (Nat.le_of_ble_eq_true rfl), (Nat.le_of_ble_eq_true rfl)⟩ dX12_boundOf_57 (fun tq5 okq5 => ?_)
    refine at_aload_n (pc := 60) C 1 dX12_boundOf_60 rfl rfl ?_
    refine at_iload_n (pc := 61) C 2 dX12_boundOf_61 rfl rfl ?_
    obtain ⟨q6, eq6, hF⟩ := bind_some' hF
    refine at_callV (pc := 62) (ci := 12) C (c_X12_firstDay l g N v1 σ q6 h1 ok eq6) kv_X12_firstDay w1597 kd94 rfl rfl rfl rfl (Nat.le_of_ble_eq_true rfl) ⟨rfl, rfl, (Nat.le_of_ble_eq_true rfl), (Nat.le_of_ble_eq_true rfl)⟩ dX12_boundOf_62 (fun tq6 okq6 => ?_)
    refine at_isub (pc := 65) C dX12_boundOf_65 ?_
    refine at_iconst (pc := 66) C dX12_boundOf_66 ?_
    refine at_iadd (pc := 67) C dX12_boundOf_67 ?_
    refine at_i2l (pc := 68) C (ja_R (js q5 q6) 1) dX12_boundOf_68 ?_
    obtain ⟨z7, hF⟩ := grd_some hF
    refine at_ldiv (pc := 69) C dX12_boundOf_69 (inR.lo (ja_R (js q5 q6) 1)) z7 ?_
    refine at_lstore (pc := 70) (lv' := [(4, vl (jld (jlm (jlneg q4) q3) (ja (js q5 q6) 1))), (3, vi q3), (0, vr g 94), (1, vi v1), (2, vi v2)]) C dX12_boundOf_70 (Nat.le_of_ble_eq_true rfl) rfl ?_
    refine at_aload_n (pc := 72) C 2 dX12_boundOf_72 rfl rfl ?_
    refine at_iload_n (pc := 73) C 4 dX12_boundOf_73 rfl rfl ?_
    obtain ⟨q8, eq8, hF⟩ := bind_some' hF
    refine at_callV (pc := 74) (ci := 12) C (c_X12_result l g N v2 σ q8 h2 ok eq8) kv_X12_result w1585 kd94 rfl rfl rfl rfl (Nat.le_of_ble_eq_true rfl) ⟨rfl, rfl, (Nat.le_of_ble_eq_true rfl), (Nat.le_of_ble_eq_true rfl)⟩ dX12_boundOf_74 (fun tq8 okq8 => ?_)
    refine at_i2l (pc := 77) C tq8 dX12_boundOf_77 ?_
    refine at_iload_n (pc := 78) C 1 dX12_boundOf_78 rfl rfl ?_
    refine at_i2l (pc := 79) C tq3 dX12_boundOf_79 ?_
    refine at_lmul (pc := 80) C dX12_boundOf_80 ?_
    refine at_aload_n (pc := 81) C 2 dX12_boundOf_81 rfl rfl ?_
    refine at_iload_n (pc := 82) C 4 dX12_boundOf_82 rfl rfl ?_
    obtain ⟨q9, eq9, hF⟩ := bind_some' hF
    refine at_callV (pc := 83) (ci := 12) C (c_X12_lastDay l g N v2 σ q9 h2 ok eq9) kv_X12_lastDay w1601 kd94 rfl rfl rfl rfl (Nat.le_of_ble_eq_true rfl) ⟨rfl, rfl, (Nat.le_of_ble_eq_true rfl), (Nat.le_of_ble_eq_true rfl)⟩ dX12_boundOf_83 (fun tq9 okq9 => ?_)
    refine at_aload_n (pc := 86) C 2 dX12_boundOf_86 rfl rfl ?_
    refine at_iload_n (pc := 87) C 4 dX12_boundOf_87 rfl rfl ?_
    obtain ⟨q10, eq10, hF⟩ := bind_some' hF
    refine at_callV (pc := 88) (ci := 12) C (c_X12_firstDay l g N v2 σ q10 h2 ok eq10) kv_X12_firstDay w1597 kd94 rfl rfl rfl rfl (Nat.le_of_ble_eq_true rfl) ⟨rfl, rfl, (Nat.le_of_ble_eq_true rfl), (Nat.le_of_ble_eq_true rfl)⟩ dX12_boundOf_88 (fun tq10 okq10 => ?_)
    refine at_isub (pc := 91) C dX12_boundOf_91 ?_
    refine at_iconst (pc := 92) C dX12_boundOf_92 ?_
    refine at_iadd (pc := 93) C dX12_boundOf_93 ?_
    refine at_i2l (pc := 94) C (ja_R (js q9 q10) 1) dX12_boundOf_94 ?_
    obtain ⟨z11, hF⟩ := grd_some hF
    refine at_ldiv (pc := 95) C dX12_boundOf_95 (inR.lo (ja_R (js q9 q10) 1)) z11 ?_
    refine at_lstore (pc := 96) (lv' := [(6, vl (jld (jlm q8 q3) (ja (js q9 q10) 1))), (4, vl (jld (jlm (jlneg q4) q3) (ja (js q5 q6) 1))), (3, vi q3), (0, vr g 94), (1, vi v1), (2, vi v2)]) C dX12_boundOf_96 (Nat.le_of_ble_eq_true rfl) rfl ?_
    refine at_lload (pc := 98) C 1 dX12_boundOf_98 rfl ?_
    refine at_lload (pc := 100) C 0 dX12_boundOf_100 rfl ?_
    refine at_lcmp (pc := 102) C dX12_boundOf_102 ?_
    refine at_if_ge (pc := 103) (tgt := 111) C (jlcmp_R (jld (jlm (jlneg q4) q3) (ja (js q5 q6) 1)) (jld (jlm q8 q3) (ja (js q9 q10) 1))) dX12_boundOf_103 rfl (fun c12 => ?_) (fun c12 => ?_)
    · have hF := (if_pos c12).symm.trans hF
      refine at_lload (pc := 111) C 0 dX12_boundOf_111 rfl ?_
      refine at_l2i (pc := 113) C dX12_boundOf_113 ?_
      obtain rfl := Option.some.inj hF
      exact at_iret (pc := 114) C hr hlk (jl2i_R (jld (jlm q8 q3) (ja (js q9 q10) 1))) ok dX12_boundOf_114
    · have hF := (if_neg c12).symm.trans hF
      refine at_lload (pc := 106) C 1 dX12_boundOf_106 rfl ?_
      refine at_goto (pc := 108) (tgt := 113) C dX12_boundOf_108 rfl ?_
      refine at_l2i (pc := 113) C dX12_boundOf_113 ?_
      obtain rfl := Option.some.inj hF
      exact at_iret (pc := 114) C hr hlk (jl2i_R (jld (jlm (jlneg q4) q3) (ja (js q5 q6) 1))) ok dX12_boundOf_114
  · have hF := (if_neg c2).symm.trans hF
    refine at_aload_n (pc := 9) C 0 dX12_boundOf_9 rfl rfl ?_
    refine at_iload_n (pc := 10) C 1 dX12_boundOf_10 rfl rfl ?_
    obtain ⟨q13, eq13, hF⟩ := bind_some' hF
    refine at_callV (pc := 11) (ci := 12) C (c_X12_result l g N v1 σ q13 h1 ok eq13) kv_X12_result w1585 kd94 rfl rfl rfl rfl (Nat.le_of_ble_eq_true rfl) ⟨rfl, rfl, (Nat.le_of_ble_eq_true rfl), (Nat.le_of_ble_eq_true rfl)⟩ dX12_boundOf_11 (fun tq13 okq13 => ?_)
    refine at_ineg (pc := 14) C dX12_boundOf_14 ?_
    refine at_aload_n (pc := 15) C 0 dX12_boundOf_15 rfl rfl ?_
    refine at_iload_n (pc := 16) C 2 dX12_boundOf_16 rfl rfl ?_
    obtain ⟨q14, eq14, hF⟩ := bind_some' hF
    refine at_callV (pc := 17) (ci := 12) C (c_X12_result l g N v2 σ q14 h2 ok eq14) kv_X12_result w1585 kd94 rfl rfl rfl rfl (Nat.le_of_ble_eq_true rfl) ⟨rfl, rfl, (Nat.le_of_ble_eq_true rfl), (Nat.le_of_ble_eq_true rfl)⟩ dX12_boundOf_17 (fun tq14 okq14 => ?_)
    refine at_icmp_ge (pc := 20) (tgt := 32) C (jneg_R q13) tq14 dX12_boundOf_20 rfl (fun c15 => ?_) (fun c15 => ?_)
    · have hF := (if_pos c15).symm.trans hF
      refine at_aload_n (pc := 32) C 0 dX12_boundOf_32 rfl rfl ?_
      refine at_iload_n (pc := 33) C 2 dX12_boundOf_33 rfl rfl ?_
      obtain ⟨q16, eq16, hF⟩ := bind_some' hF
      refine at_callV (pc := 34) (ci := 12) C (c_X12_result l g N v2 σ q16 h2 ok eq16) kv_X12_result w1585 kd94 rfl rfl rfl rfl (Nat.le_of_ble_eq_true rfl) ⟨rfl, rfl, (Nat.le_of_ble_eq_true rfl), (Nat.le_of_ble_eq_true rfl)⟩ dX12_boundOf_34 (fun tq16 okq16 => ?_)
      obtain rfl := Option.some.inj hF
      exact at_iret (pc := 37) C hr hlk tq16 ok dX12_boundOf_37
    · have hF := (if_neg c15).symm.trans hF
      refine at_aload_n (pc := 23) C 0 dX12_boundOf_23 rfl rfl ?_
      refine at_iload_n (pc := 24) C 1 dX12_boundOf_24 rfl rfl ?_
      obtain ⟨q17, eq17, hF⟩ := bind_some' hF
      refine at_callV (pc := 25) (ci := 12) C (c_X12_result l g N v1 σ q17 h1 ok eq17) kv_X12_result w1585 kd94 rfl rfl rfl rfl (Nat.le_of_ble_eq_true rfl) ⟨rfl, rfl, (Nat.le_of_ble_eq_true rfl), (Nat.le_of_ble_eq_true rfl)⟩ dX12_boundOf_25 (fun tq17 okq17 => ?_)
      refine at_ineg (pc := 28) C dX12_boundOf_28 ?_
      refine at_goto (pc := 29) (tgt := 37) C dX12_boundOf_29 rfl ?_
      obtain rfl := Option.some.inj hF
      exact at_iret (pc := 37) C hr hlk (jneg_R q17) ok dX12_boundOf_37
