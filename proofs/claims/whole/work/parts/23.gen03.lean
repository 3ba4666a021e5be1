abbrev rm_X8_readLine : Room := { frames := 7, cells := 0, slots := 0, locals := 150 }
def F_X8_readLine (N : Nat) (v1 : Nat) (σ : Sto) : Option (Int × Sto) :=
  if (σ.1 1 4) = 1 then (if (σ.1 1 6) = 0 then ((F_X8_readMember N v1 σ).bind (fun q3 => some (q3.1, q3.2))) else (if (σ.1 1 6) = 1 then ((F_X8_readOwns N v1 σ).bind (fun q5 => some (q5.1, q5.2))) else (if (σ.1 1 6) = 2 then ((F_X8_readPeriod N v1 σ).bind (fun q7 => some (q7.1, q7.2))) else ((F_X8_readSetting N v1 (σ.1 1 6) σ).bind (fun q8 => some (q8.1, q8.2)))))) else ((F_X8_fail N 1 σ).bind (fun q9 => some (q9.1, q9.2)))
set_option maxHeartbeats 4000000 in
set_option maxRecDepth 100000 in
theorem c_X8_readLine (l : Launch) (g : Geo) (N : Nat) (v1 : Nat) (σ : Sto) (res : Int × Sto) (hk1 : knd v1 = (10, 14)) (ok : OK σ) (hF : F_X8_readLine N v1 σ = some res) : MtI l g yX8_readLine cX8_readLine 2 (some .boolean) rm_X8_readLine [vr g 1, vr g v1] σ res.1 res.2 isB := by
  intro sz
  refine Met.ofAt (own := RX8) (QQ := fun z => QI g z res.1 res.2 isB) (by decide +kernel) (Nat.le_of_ble_eq_true rfl) rfl ?_
  intro p e s m args below meth c C hr hlk
  show At p l e rm_X8_readLine s m args below meth c g 2 (MQ below (QI g s.heap.size res.1 res.2 isB) args s 0 0 (AA g s.heap.size)) 0 [(0, vr g 1), (1, vr g v1)] [] σ
  unfold F_X8_readLine at hF
  refine at_aload_n C 0 dX8_readLine_0 rfl rfl ?_
  refine at_geti (jz := 4) C fw_8_25 kd1 rfl (Nat.le_of_ble_eq_true rfl) rfl rfl dX8_readLine_1 ?_
  refine at_iconst C dX8_readLine_4 ?_
  refine at_icmp_eq C (ok _ _) (isB.r (Or.inr rfl)) dX8_readLine_5 rfl (fun c1 => ?_) (fun c1 => ?_)
  · have hF := (if_pos c1).symm.trans hF
    refine at_aload_n C 0 dX8_readLine_14 rfl rfl ?_
    refine at_geti (jz := 6) C fw_8_31 kd1 rfl (Nat.le_of_ble_eq_true rfl) rfl rfl dX8_readLine_15 ?_
    by_cases c2 : (σ.1 1 6) = 0
    · have hF := (if_pos c2).symm.trans hF
      refine at_tin (off := 26) (tgt := 44) C dX8_readLine_18 (ok _ _) (by rw [c2]; decide) (by rw [c2]; decide) (by rw [c2]; rfl) rfl ?_
      refine at_aload_n C 0 dX8_readLine_44 rfl rfl ?_
      refine at_aload_n C 1 dX8_readLine_45 rfl rfl ?_
      obtain ⟨q3, eq3, hF⟩ := bind_some' hF
      refine at_callV (ci := 8) C (c_X8_readMember l g N v1 σ q3 hk1 ok eq3) kv_X8_readMember w634 kd1 rfl rfl rfl rfl (Nat.le_of_ble_eq_true rfl) ⟨rfl, rfl, (Nat.le_of_ble_eq_true rfl), (Nat.le_of_ble_eq_true rfl)⟩ dX8_readLine_46 (fun tq3 okq3 => ?_)
      obtain rfl := Option.some.inj hF
      exact at_zret C hr hlk tq3 okq3 dX8_readLine_49
    · have hF := (if_neg c2).symm.trans hF
      by_cases c4 : (σ.1 1 6) = 1
      · have hF := (if_pos c4).symm.trans hF
        refine at_tin (off := 32) (tgt := 50) C dX8_readLine_18 (ok _ _) (by rw [c4]; decide) (by rw [c4]; decide) (by rw [c4]; rfl) rfl ?_
        refine at_aload_n C 0 dX8_readLine_50 rfl rfl ?_
        refine at_aload_n C 1 dX8_readLine_51 rfl rfl ?_
        obtain ⟨q5, eq5, hF⟩ := bind_some' hF
        refine at_callV (ci := 8) C (c_X8_readOwns l g N v1 σ q5 hk1 ok eq5) kv_X8_readOwns w650 kd1 rfl rfl rfl rfl (Nat.le_of_ble_eq_true rfl) ⟨rfl, rfl, (Nat.le_of_ble_eq_true rfl), (Nat.le_of_ble_eq_true rfl)⟩ dX8_readLine_52 (fun tq5 okq5 => ?_)
        obtain rfl := Option.some.inj hF
        exact at_zret C hr hlk tq5 okq5 dX8_readLine_55
      · have hF := (if_neg c4).symm.trans hF
        by_cases c6 : (σ.1 1 6) = 2
        · have hF := (if_pos c6).symm.trans hF
          refine at_tin (off := 38) (tgt := 56) C dX8_readLine_18 (ok _ _) (by rw [c6]; decide) (by rw [c6]; decide) (by rw [c6]; rfl) rfl ?_
          refine at_aload_n C 0 dX8_readLine_56 rfl rfl ?_
          refine at_aload_n C 1 dX8_readLine_57 rfl rfl ?_
          obtain ⟨q7, eq7, hF⟩ := bind_some' hF
          refine at_callV (ci := 8) C (c_X8_readPeriod l g N v1 σ q7 hk1 ok eq7) kv_X8_readPeriod w662 kd1 rfl rfl rfl rfl (Nat.le_of_ble_eq_true rfl) ⟨rfl, rfl, (Nat.le_of_ble_eq_true rfl), (Nat.le_of_ble_eq_true rfl)⟩ dX8_readLine_58 (fun tq7 okq7 => ?_)
          obtain rfl := Option.some.inj hF
          exact at_zret C hr hlk tq7 okq7 dX8_readLine_61
        · have hF := (if_neg c6).symm.trans hF
          refine at_tout (tgt := 62) C (ok _ _) dX8_readLine_18 (by omega) rfl ?_
          refine at_aload_n C 0 dX8_readLine_62 rfl rfl ?_
          refine at_aload_n C 1 dX8_readLine_63 rfl rfl ?_
          refine at_aload_n C 0 dX8_readLine_64 rfl rfl ?_
          refine at_geti (jz := 6) C fw_8_31 kd1 rfl (Nat.le_of_ble_eq_true rfl) rfl rfl dX8_readLine_65 ?_
          obtain ⟨q8, eq8, hF⟩ := bind_some' hF
          refine at_callV (ci := 8) C (c_X8_readSetting l g N v1 (σ.1 1 6) σ q8 hk1 (ok _ _) ok eq8) kv_X8_readSetting w672 kd1 rfl rfl rfl rfl (Nat.le_of_ble_eq_true rfl) ⟨rfl, rfl, (Nat.le_of_ble_eq_true rfl), (Nat.le_of_ble_eq_true rfl)⟩ dX8_readLine_68 (fun tq8 okq8 => ?_)
          obtain rfl := Option.some.inj hF
          exact at_zret C hr hlk tq8 okq8 dX8_readLine_71
  · have hF := (if_neg c1).symm.trans hF
    refine at_aload_n C 0 dX8_readLine_8 rfl rfl ?_
    refine at_iconst C dX8_readLine_9 ?_
    obtain ⟨q9, eq9, hF⟩ := bind_some' hF
    refine at_callV (ci := 8) C (c_X8_fail l g N 1 σ q9 (isB.r (Or.inr rfl)) ok eq9) kv_X8_fail w630 kd1 rfl rfl rfl rfl (Nat.le_of_ble_eq_true rfl) ⟨rfl, rfl, (Nat.le_of_ble_eq_true rfl), (Nat.le_of_ble_eq_true rfl)⟩ dX8_readLine_10 (fun tq9 okq9 => ?_)
    obtain rfl := Option.some.inj hF
    exact at_zret C hr hlk tq9 okq9 dX8_readLine_13
abbrev rm_X8_read : Room := { frames := 8, cells := 0, slots := 0, locals := 171 }
def F_X8_read_B45 (N : Nat) (nx45 : (Int × Sto) → Option (Int × Sto)) (v1 : Nat) (v3 : Int) (σ : Sto) : Option (Int × Sto) :=
  if 700 ≤ v3 then (some (1, σ)) else (if (σ.1 1 4) = 0 then (some (1, σ)) else ((F_X8_readLine N v1 σ).bind (fun q5 => if q5.1 = 0 then (some (0, q5.2)) else ((F_X8_expect N 5 q5.2).bind (fun q7 => if q7.1 = 0 then (some (0, q7.2)) else ((F_X8_next N (upI q7.2 1 7 (ja (q7.2.1 1 7) 1))).bind (fun q9 => nx45 ((ja v3 1), q9))))))))
def F_X8_read (N : Nat) (v1 : Nat) (v2 : Int) (σ : Sto) : Option (Int × Sto) :=
  (F_X0_clear N v1 (upI (upI (upI (upI (upI (upI (upI σ 1 2 v2) 1 3 0) 1 1 0) 1 7 0) 1 8 0) 1 9 0) 1 10 (-1))).bind (fun q1 => (F_X8_next N q1).bind (fun q2 => loopK (fun q nx45 => F_X8_read_B45 N  nx45 v1 q.1 q.2) N (0, q2)))
set_option maxHeartbeats 4000000 in
set_option maxRecDepth 100000 in
theorem c_X8_read (l : Launch) (g : Geo) (N : Nat) (v1 : Nat) (v2 : Int) (σ : Sto) (res : Int × Sto) (hk1 : knd v1 = (10, 14)) (h2 : inR v2) (ok : OK σ) (hF : F_X8_read N v1 v2 σ = some res) : MtI l g yX8_read cX8_read 4 (some .boolean) rm_X8_read [vr g 1, vr g v1, vi v2] σ res.1 res.2 isB := by
  intro sz
  refine Met.ofAt (own := RX8) (QQ := fun z => QI g z res.1 res.2 isB) (by decide +kernel) (Nat.le_of_ble_eq_true rfl) rfl ?_
  intro p e s m args below meth c C hr hlk
  show At p l e rm_X8_read s m args below meth c g 4 (MQ below (QI g s.heap.size res.1 res.2 isB) args s 0 0 (AA g s.heap.size)) 0 [(0, vr g 1), (1, vr g v1), (2, vi v2)] [] σ
  unfold F_X8_read at hF
  refine at_aload_n C 0 dX8_read_0 rfl rfl ?_
  refine at_iload_n C 2 dX8_read_1 rfl rfl ?_
  refine at_puti (jz := 2) C fu_8_19 kd1 rfl (Nat.le_of_ble_eq_true rfl) rfl rfl dX8_read_2 ?_
  refine at_aload_n C 0 dX8_read_5 rfl rfl ?_
  refine at_iconst C dX8_read_6 ?_
  refine at_puti (jz := 3) C fu_8_22 kd1 rfl (Nat.le_of_ble_eq_true rfl) rfl rfl dX8_read_7 ?_
  refine at_aload_n C 0 dX8_read_10 rfl rfl ?_
  refine at_iconst C dX8_read_11 ?_
  refine at_puti (jz := 1) C fu_8_15 kd1 rfl (Nat.le_of_ble_eq_true rfl) rfl rfl dX8_read_12 ?_
  refine at_aload_n C 0 dX8_read_15 rfl rfl ?_
  refine at_iconst C dX8_read_16 ?_
  refine at_puti (jz := 7) C fu_8_34 kd1 rfl (Nat.le_of_ble_eq_true rfl) rfl rfl dX8_read_17 ?_
  refine at_aload_n C 0 dX8_read_20 rfl rfl ?_
  refine at_iconst C dX8_read_21 ?_
  refine at_puti (jz := 8) C fu_8_37 kd1 rfl (Nat.le_of_ble_eq_true rfl) rfl rfl dX8_read_22 ?_
  refine at_aload_n C 0 dX8_read_25 rfl rfl ?_
  refine at_iconst C dX8_read_26 ?_
  refine at_puti (jz := 9) C fu_8_40 kd1 rfl (Nat.le_of_ble_eq_true rfl) rfl rfl dX8_read_27 ?_
  refine at_aload_n C 0 dX8_read_30 rfl rfl ?_
  refine at_iconst C dX8_read_31 ?_
  refine at_puti (jz := 10) C fu_8_43 kd1 rfl (Nat.le_of_ble_eq_true rfl) rfl rfl dX8_read_32 ?_
  refine at_aload_n C 1 dX8_read_35 rfl rfl ?_
  obtain ⟨q1, eq1, hF⟩ := bind_some' hF
  refine at_callVv (ci := 0) C (c_X0_clear l g N v1 (upI (upI (upI (upI (upI (upI (upI σ 1 2 v2) 1 3 0) 1 1 0) 1 7 0) 1 8 0) 1 9 0) 1 10 (-1)) q1 hk1 (OK_up (OK_up (OK_up (OK_up (OK_up (OK_up (OK_up ok h2) (isB.r (Or.inl rfl))) (isB.r (Or.inl rfl))) (isB.r (Or.inl rfl))) (isB.r (Or.inl rfl))) (isB.r (Or.inl rfl))) ⟨by decide, by decide⟩) eq1) kv_X0_clear w590 hk1 rfl rfl rfl rfl (Nat.le_of_ble_eq_true rfl) ⟨rfl, rfl, (Nat.le_of_ble_eq_true rfl), (Nat.le_of_ble_eq_true rfl)⟩ dX8_read_36 (fun okq1 => ?_)
  refine at_aload_n C 0 dX8_read_39 rfl rfl ?_
  obtain ⟨q2, eq2, hF⟩ := bind_some' hF
  refine at_callVv (ci := 8) C (c_X8_next l g N  q1 q2  okq1 eq2) kv_X8_next w594 kd1 rfl rfl rfl rfl (Nat.le_of_ble_eq_true rfl) ⟨rfl, rfl, (Nat.le_of_ble_eq_true rfl), (Nat.le_of_ble_eq_true rfl)⟩ dX8_read_40 (fun okq2 => ?_)
  refine at_iconst C dX8_read_43 ?_
  refine at_istore_n C dX8_read_44 rfl (Nat.le_of_ble_eq_true rfl) rfl ?_
  refine at_sub [1, 2, 0] rfl ?_
  refine loopK_ind (res := res) (P := fun (q : Int × Sto) => inR q.1 → OK q.2 → At p l e rm_X8_read s m args below meth c g 4 (MQ below (QI g s.heap.size res.1 res.2 isB) args s 0 0 (AA g s.heap.size)) 45 [(0, vr g 1), (1, vr g v1), (3, vi q.1)] [] q.2) ?_ N _ hF (isB.r (Or.inl rfl)) okq2
  intro nx45 q ih45 hF
  obtain ⟨v3, σ⟩ := q
  intro h3 ok
  have hF : F_X8_read_B45 N  nx45 v1 v3 σ = some res := hF
  unfold F_X8_read_B45 at hF
  refine at_iload_n C 2 dX8_read_45 rfl rfl ?_
  refine at_sipush C dX8_read_46 (by decide) ?_
  refine at_icmp_ge C h3 ⟨by decide, by decide⟩ dX8_read_49 rfl (fun c3 => ?_) (fun c3 => ?_)
  · have hF := (if_pos c3).symm.trans hF
    refine at_iconst C dX8_read_97 ?_
    obtain rfl := Option.some.inj hF
    exact at_zret C hr hlk (Or.inr rfl) ok dX8_read_98
  · have hF := (if_neg c3).symm.trans hF
    refine at_aload_n C 0 dX8_read_52 rfl rfl ?_
    refine at_geti (jz := 4) C fw_8_25 kd1 rfl (Nat.le_of_ble_eq_true rfl) rfl rfl dX8_read_53 ?_
    refine at_if_eq C (ok _ _) dX8_read_56 rfl (fun c4 => ?_) (fun c4 => ?_)
    · have hF := (if_pos c4).symm.trans hF
      refine at_iconst C dX8_read_97 ?_
      obtain rfl := Option.some.inj hF
      exact at_zret C hr hlk (Or.inr rfl) ok dX8_read_98
    · have hF := (if_neg c4).symm.trans hF
      refine at_aload_n C 0 dX8_read_59 rfl rfl ?_
      refine at_aload_n C 1 dX8_read_60 rfl rfl ?_
      obtain ⟨q5, eq5, hF⟩ := bind_some' hF
      refine at_callV (ci := 8) C (c_X8_readLine l g N v1 σ q5 hk1 ok eq5) kv_X8_readLine w626 kd1 rfl rfl rfl rfl (Nat.le_of_ble_eq_true rfl) ⟨rfl, rfl, (Nat.le_of_ble_eq_true rfl), (Nat.le_of_ble_eq_true rfl)⟩ dX8_read_61 (fun tq5 okq5 => ?_)
      refine at_if_eq C (isB.r tq5) dX8_read_64 rfl (fun c6 => ?_) (fun c6 => ?_)
      · have hF := (if_pos c6).symm.trans hF
        refine at_iconst C dX8_read_75 ?_
        obtain rfl := Option.some.inj hF
        exact at_zret C hr hlk (Or.inl rfl) okq5 dX8_read_76
      · have hF := (if_neg c6).symm.trans hF
        refine at_aload_n C 0 dX8_read_67 rfl rfl ?_
        refine at_iconst C dX8_read_68 ?_
        obtain ⟨q7, eq7, hF⟩ := bind_some' hF
        refine at_callV (ci := 8) C (c_X8_expect l g N 5 q5.2 q7 ⟨by decide, by decide⟩ okq5 eq7) kv_X8_expect w638 kd1 rfl rfl rfl rfl (Nat.le_of_ble_eq_true rfl) ⟨rfl, rfl, (Nat.le_of_ble_eq_true rfl), (Nat.le_of_ble_eq_true rfl)⟩ dX8_read_69 (fun tq7 okq7 => ?_)
        refine at_if_ne C (isB.r tq7) dX8_read_72 rfl (fun c8 => ?_) (fun c8 => ?_)
        · have hF := (if_neg c8).symm.trans hF
          refine at_aload_n C 0 dX8_read_77 rfl rfl ?_
          refine at_dup C dX8_read_78 rfl ?_
          refine at_geti (jz := 7) C fw_8_34 kd1 rfl (Nat.le_of_ble_eq_true rfl) rfl rfl dX8_read_79 ?_
          refine at_iconst C dX8_read_82 ?_
          refine at_iadd C dX8_read_83 ?_
          refine at_puti (jz := 7) C fu_8_34 kd1 rfl (Nat.le_of_ble_eq_true rfl) rfl rfl dX8_read_84 ?_
          refine at_aload_n C 0 dX8_read_87 rfl rfl ?_
          obtain ⟨q9, eq9, hF⟩ := bind_some' hF
          refine at_callVv (ci := 8) C (c_X8_next l g N  (upI q7.2 1 7 (ja (q7.2.1 1 7) 1)) q9  (OK_up okq7 (ja_R _ _)) eq9) kv_X8_next w594 kd1 rfl rfl rfl rfl (Nat.le_of_ble_eq_true rfl) ⟨rfl, rfl, (Nat.le_of_ble_eq_true rfl), (Nat.le_of_ble_eq_true rfl)⟩ dX8_read_88 (fun okq9 => ?_)
          refine at_iinc C 2 dX8_read_91 rfl (Nat.le_of_ble_eq_true rfl) rfl ?_
          refine at_goto C dX8_read_94 rfl ?_
          refine at_sub [1, 2, 0] rfl ?_
          exact ih45 _ hF (ja_R _ _) okq9
        · have hF := (if_pos c8).symm.trans hF
          refine at_iconst C dX8_read_75 ?_
          obtain rfl := Option.some.inj hF
          exact at_zret C hr hlk (Or.inl rfl) okq7 dX8_read_76
abbrev rm_X9_pay : Room := { frames := 0, cells := 0, slots := 0, locals := 0 }
def F_X9_pay (N : Nat) (v1 : Int) (v2 : Int) (v3 : Int) (σ : Sto) : Option (Sto) :=
  inb v1 8 (inb v2 8 (inb ((upI (upI σ 69 v1 (ja (σ.1 69 v1) v3)) 69 v2 (js ((upI σ 69 v1 (ja (σ.1 69 v1) v3)).1 69 v2) v3)).1 68 4) 8 (inb ((upI (upI (upI σ 69 v1 (ja (σ.1 69 v1) v3)) 69 v2 (js ((upI σ 69 v1 (ja (σ.1 69 v1) v3)).1 69 v2) v3)) 70 ((upI (upI σ 69 v1 (ja (σ.1 69 v1) v3)) 69 v2 (js ((upI σ 69 v1 (ja (σ.1 69 v1) v3)).1 69 v2) v3)).1 68 4) v1).1 68 4) 8 (inb ((upI (upI (upI (upI σ 69 v1 (ja (σ.1 69 v1) v3)) 69 v2 (js ((upI σ 69 v1 (ja (σ.1 69 v1) v3)).1 69 v2) v3)) 70 ((upI (upI σ 69 v1 (ja (σ.1 69 v1) v3)) 69 v2 (js ((upI σ 69 v1 (ja (σ.1 69 v1) v3)).1 69 v2) v3)).1 68 4) v1) 71 ((upI (upI (upI σ 69 v1 (ja (σ.1 69 v1) v3)) 69 v2 (js ((upI σ 69 v1 (ja (σ.1 69 v1) v3)).1 69 v2) v3)) 70 ((upI (upI σ 69 v1 (ja (σ.1 69 v1) v3)) 69 v2 (js ((upI σ 69 v1 (ja (σ.1 69 v1) v3)).1 69 v2) v3)).1 68 4) v1).1 68 4) v2).1 68 4) 8 (some (upI (upI (upI (upI (upI (upI σ 69 v1 (ja (σ.1 69 v1) v3)) 69 v2 (js ((upI σ 69 v1 (ja (σ.1 69 v1) v3)).1 69 v2) v3)) 70 ((upI (upI σ 69 v1 (ja (σ.1 69 v1) v3)) 69 v2 (js ((upI σ 69 v1 (ja (σ.1 69 v1) v3)).1 69 v2) v3)).1 68 4) v1) 71 ((upI (upI (upI σ 69 v1 (ja (σ.1 69 v1) v3)) 69 v2 (js ((upI σ 69 v1 (ja (σ.1 69 v1) v3)).1 69 v2) v3)) 70 ((upI (upI σ 69 v1 (ja (σ.1 69 v1) v3)) 69 v2 (js ((upI σ 69 v1 (ja (σ.1 69 v1) v3)).1 69 v2) v3)).1 68 4) v1).1 68 4) v2) 72 ((upI (upI (upI (upI σ 69 v1 (ja (σ.1 69 v1) v3)) 69 v2 (js ((upI σ 69 v1 (ja (σ.1 69 v1) v3)).1 69 v2) v3)) 70 ((upI (upI σ 69 v1 (ja (σ.1 69 v1) v3)) 69 v2 (js ((upI σ 69 v1 (ja (σ.1 69 v1) v3)).1 69 v2) v3)).1 68 4) v1) 71 ((upI (upI (upI σ 69 v1 (ja (σ.1 69 v1) v3)) 69 v2 (js ((upI σ 69 v1 (ja (σ.1 69 v1) v3)).1 69 v2) v3)) 70 ((upI (upI σ 69 v1 (ja (σ.1 69 v1) v3)) 69 v2 (js ((upI σ 69 v1 (ja (σ.1 69 v1) v3)).1 69 v2) v3)).1 68 4) v1).1 68 4) v2).1 68 4) v3) 68 4 (ja ((upI (upI (upI (upI (upI σ 69 v1 (ja (σ.1 69 v1) v3)) 69 v2 (js ((upI σ 69 v1 (ja (σ.1 69 v1) v3)).1 69 v2) v3)) 70 ((upI (upI σ 69 v1 (ja (σ.1 69 v1) v3)) 69 v2 (js ((upI σ 69 v1 (ja (σ.1 69 v1) v3)).1 69 v2) v3)).1 68 4) v1) 71 ((upI (upI (upI σ 69 v1 (ja (σ.1 69 v1) v3)) 69 v2 (js ((upI σ 69 v1 (ja (σ.1 69 v1) v3)).1 69 v2) v3)) 70 ((upI (upI σ 69 v1 (ja (σ.1 69 v1) v3)) 69 v2 (js ((upI σ 69 v1 (ja (σ.1 69 v1) v3)).1 69 v2) v3)).1 68 4) v1).1 68 4) v2) 72 ((upI (upI (upI (upI σ 69 v1 (ja (σ.1 69 v1) v3)) 69 v2 (js ((upI σ 69 v1 (ja (σ.1 69 v1) v3)).1 69 v2) v3)) 70 ((upI (upI σ 69 v1 (ja (σ.1 69 v1) v3)) 69 v2 (js ((upI σ 69 v1 (ja (σ.1 69 v1) v3)).1 69 v2) v3)).1 68 4) v1) 71 ((upI (upI (upI σ 69 v1 (ja (σ.1 69 v1) v3)) 69 v2 (js ((upI σ 69 v1 (ja (σ.1 69 v1) v3)).1 69 v2) v3)) 70 ((upI (upI σ 69 v1 (ja (σ.1 69 v1) v3)) 69 v2 (js ((upI σ 69 v1 (ja (σ.1 69 v1) v3)).1 69 v2) v3)).1 68 4) v1).1 68 4) v2).1 68 4) v3).1 68 4) 1)))))))
set_option maxHeartbeats 4000000 in
set_option maxRecDepth 100000 in
theorem c_X9_pay (l : Launch) (g : Geo) (N : Nat) (v1 : Int) (v2 : Int) (v3 : Int) (σ : Sto) (res : Sto) (h1 : inR v1) (h2 : inR v2) (h3 : inR v3) (ok : OK σ) (hF : F_X9_pay N v1 v2 v3 σ = some res) : MtV l g yX9_pay cX9_pay 4 none rm_X9_pay [vr g 68, vi v1, vi v2, vi v3] σ res := by
  intro sz
  refine Met.ofAt (own := RX9) (QQ := fun z => QV g z res) (by decide +kernel) (Nat.le_of_ble_eq_true rfl) rfl ?_
  intro p e s m args below meth c C hr hlk
  show At p l e rm_X9_pay s m args below meth c g 4 (MQ below (QV g s.heap.size res) args s 0 0 (AA g s.heap.size)) 0 [(0, vr g 68), (1, vi v1), (2, vi v2), (3, vi v3)] [] σ
  unfold F_X9_pay at hF
  refine at_aload_n C 0 dX9_pay_0 rfl rfl ?_
  refine at_getr (k' := 69) C 1 fw_9_9 kd68 rfl (Nat.le_of_ble_eq_true rfl) rfl rfl dX9_pay_1 ?_
  refine at_iload_n C 1 dX9_pay_4 rfl rfl ?_
  refine at_dup2 C dX9_pay_5 rfl rfl ?_
  obtain ⟨b1, hF⟩ := inb_some hF
  refine at_iaload C kd69 b1 dX9_pay_6 ?_
  refine at_iload_n C 3 dX9_pay_7 rfl rfl ?_
  refine at_iadd C dX9_pay_8 ?_
  refine at_iastore C kd69 b1 dX9_pay_9 ?_
  refine at_aload_n C 0 dX9_pay_10 rfl rfl ?_
  refine at_getr (k' := 69) C 1 fw_9_9 kd68 rfl (Nat.le_of_ble_eq_true rfl) rfl rfl dX9_pay_11 ?_
  refine at_iload_n C 2 dX9_pay_14 rfl rfl ?_
  refine at_dup2 C dX9_pay_15 rfl rfl ?_
  obtain ⟨b2, hF⟩ := inb_some hF
  refine at_iaload C kd69 b2 dX9_pay_16 ?_
  refine at_iload_n C 3 dX9_pay_17 rfl rfl ?_
  refine at_isub C dX9_pay_18 ?_
  refine at_iastore C kd69 b2 dX9_pay_19 ?_
  refine at_aload_n C 0 dX9_pay_20 rfl rfl ?_
  refine at_getr (k' := 70) C 2 fw_9_15 kd68 rfl (Nat.le_of_ble_eq_true rfl) rfl rfl dX9_pay_21 ?_
  refine at_aload_n C 0 dX9_pay_24 rfl rfl ?_
  refine at_geti (jz := 4) C fw_9_24 kd68 rfl (Nat.le_of_ble_eq_true rfl) rfl rfl dX9_pay_25 ?_
  refine at_iload_n C 1 dX9_pay_28 rfl rfl ?_
  obtain ⟨b3, hF⟩ := inb_some hF
  refine at_iastore C kd70 b3 dX9_pay_29 ?_
  refine at_aload_n C 0 dX9_pay_30 rfl rfl ?_
  refine at_getr (k' := 71) C 3 fw_9_18 kd68 rfl (Nat.le_of_ble_eq_true rfl) rfl rfl dX9_pay_31 ?_
  refine at_aload_n C 0 dX9_pay_34 rfl rfl ?_
  refine at_geti (jz := 4) C fw_9_24 kd68 rfl (Nat.le_of_ble_eq_true rfl) rfl rfl dX9_pay_35 ?_
  refine at_iload_n C 2 dX9_pay_38 rfl rfl ?_
  obtain ⟨b4, hF⟩ := inb_some hF
  refine at_iastore C kd71 b4 dX9_pay_39 ?_
  refine at_aload_n C 0 dX9_pay_40 rfl rfl ?_
  refine at_getr (k' := 72) C 4 fw_9_21 kd68 rfl (Nat.le_of_ble_eq_true rfl) rfl rfl dX9_pay_41 ?_
  refine at_aload_n C 0 dX9_pay_44 rfl rfl ?_
  refine at_geti (jz := 4) C fw_9_24 kd68 rfl (Nat.le_of_ble_eq_true rfl) rfl rfl dX9_pay_45 ?_
  refine at_iload_n C 3 dX9_pay_48 rfl rfl ?_
  obtain ⟨b5, hF⟩ := inb_some hF
  refine at_iastore C kd72 b5 dX9_pay_49 ?_
  refine at_aload_n C 0 dX9_pay_50 rfl rfl ?_
  refine at_dup C dX9_pay_51 rfl ?_
  refine at_geti (jz := 4) C fw_9_24 kd68 rfl (Nat.le_of_ble_eq_true rfl) rfl rfl dX9_pay_52 ?_
  refine at_iconst C dX9_pay_55 ?_
  refine at_iadd C dX9_pay_56 ?_
  refine at_puti (jz := 4) C fu_9_24 kd68 rfl (Nat.le_of_ble_eq_true rfl) rfl rfl dX9_pay_57 ?_
  obtain rfl := Option.some.inj hF
  exact at_vret C hr hlk (OK_up (OK_up (OK_up (OK_up (OK_up (OK_up ok (ja_R _ _)) (js_R _ _)) h1) h2) h3) (ja_R _ _)) dX9_pay_60
abbrev rm_X9_run : Room := { frames := 1, cells := 0, slots := 0, locals := 23 }
def F_X9_run_J81 (N : Nat) (nx7 : (Int × Sto) → Option (Sto)) (v1 : Int) (v2 : Int) (v3 : Int) (v4 : Int) (σ : Sto) : Option (Sto) :=
  inb v3 8 (if (σ.1 69 v3) < 0 then (inb v4 8 ((F_X9_pay N v3 v4 (jmin (jneg (σ.1 69 v3)) (σ.1 69 v4)) σ).bind (fun q5 => nx7 ((ja v2 1), q5)))) else (some σ))
def F_X9_run_J73 (N : Nat) (nx7 : (Int × Sto) → Option (Sto)) (nx20 : (Int × Int × Int) → Option (Sto)) (v1 : Int) (v2 : Int) (v3 : Int) (v5 : Int) (t0 : Int) (σ : Sto) : Option (Sto) :=
  nx20 (v3, t0, (ja v5 1))
def F_X9_run_J48 (N : Nat) (nx7 : (Int × Sto) → Option (Sto)) (nx20 : (Int × Int × Int) → Option (Sto)) (v1 : Int) (v2 : Int) (v4 : Int) (v5 : Int) (t0 : Int) (σ : Sto) : Option (Sto) :=
  inb v5 8 (inb v4 8 (if (σ.1 69 v5) ≤ (σ.1 69 v4) then (F_X9_run_J73 N nx7 nx20 v1 v2 t0 v5 v4 σ) else (F_X9_run_J73 N nx7 nx20 v1 v2 t0 v5 v5 σ)))
def F_X9_run_B20 (N : Nat) (nx7 : (Int × Sto) → Option (Sto)) (nx20 : (Int × Int × Int) → Option (Sto)) (v1 : Int) (v2 : Int) (v3 : Int) (v4 : Int) (v5 : Int) (σ : Sto) : Option (Sto) :=
  if v1 ≤ v5 then (F_X9_run_J81 N nx7 v1 v2 v3 v4 σ) else (inb v5 8 (inb v3 8 (if (σ.1 69 v3) ≤ (σ.1 69 v5) then (F_X9_run_J48 N nx7 nx20 v1 v2 v4 v5 v3 σ) else (F_X9_run_J48 N nx7 nx20 v1 v2 v4 v5 v5 σ))))
def F_X9_run_B7 (N : Nat) (nx7 : (Int × Sto) → Option (Sto)) (v1 : Int) (v2 : Int) (σ : Sto) : Option (Sto) :=
  if v1 ≤ v2 then (some σ) else (loopK (fun q nx20 => F_X9_run_B20 N nx7 nx20 v1 v2 q.1 q.2.1 q.2.2 σ) N (0, 0, 1))
def F_X9_run (N : Nat) (v1 : Int) (σ : Sto) : Option (Sto) :=
  loopK (fun q nx7 => F_X9_run_B7 N  nx7 v1 q.1 q.2) N (0, (upI σ 68 4 0))
set_option maxHeartbeats 4000000 in
set_option maxRecDepth 100000 in
theorem c_X9_run (l : Launch) (g : Geo) (N : Nat) (v1 : Int) (σ : Sto) (res : Sto) (h1 : inR v1) (ok : OK σ) (hF : F_X9_run N v1 σ = some res) : MtV l g yX9_run cX9_run 6 none rm_X9_run [vr g 68, vi v1] σ res := by
  intro sz
  refine Met.ofAt (own := RX9) (QQ := fun z => QV g z res) (by decide +kernel) (Nat.le_of_ble_eq_true rfl) rfl ?_
  intro p e s m args below meth c C hr hlk
  show At p l e rm_X9_run s m args below meth c g 6 (MQ below (QV g s.heap.size res) args s 0 0 (AA g s.heap.size)) 0 [(0, vr g 68), (1, vi v1)] [] σ
  unfold F_X9_run at hF
  refine at_aload_n C 0 dX9_run_0 rfl rfl ?_
  refine at_iconst C dX9_run_1 ?_
  refine at_puti (jz := 4) C fu_9_24 kd68 rfl (Nat.le_of_ble_eq_true rfl) rfl rfl dX9_run_2 ?_
  refine at_iconst C dX9_run_5 ?_
  refine at_istore_n C dX9_run_6 rfl (Nat.le_of_ble_eq_true rfl) rfl ?_
  refine at_sub [1, 2, 0] rfl ?_
  refine loopK_ind (res := res) (P := fun (q : Int × Sto) => inR q.1 → OK q.2 → At p l e rm_X9_run s m args below meth c g 6 (MQ below (QV g s.heap.size res) args s 0 0 (AA g s.heap.size)) 7 [(0, vr g 68), (1, vi v1), (2, vi q.1)] [] q.2) ?_ N _ hF (isB.r (Or.inl rfl)) (OK_up ok (isB.r (Or.inl rfl)))
  intro nx7 q ih7 hF
  obtain ⟨v2, σ⟩ := q
  intro h2 ok
  have hF : F_X9_run_B7 N  nx7 v1 v2 σ = some res := hF
  unfold F_X9_run_B7 at hF
  refine at_iload_n C 2 dX9_run_7 rfl rfl ?_
  refine at_iload_n C 1 dX9_run_8 rfl rfl ?_
  refine at_icmp_ge C h2 h1 dX9_run_9 rfl (fun c1 => ?_) (fun c1 => ?_)
  · have hF := (if_pos c1).symm.trans hF
    obtain rfl := Option.some.inj hF
    exact at_vret C hr hlk ok dX9_run_121
  · have hF := (if_neg c1).symm.trans hF
    refine at_iconst C dX9_run_12 ?_
    refine at_istore_n C dX9_run_13 rfl (Nat.le_of_ble_eq_true rfl) rfl ?_
    refine at_iconst C dX9_run_14 ?_
    refine at_istore C dX9_run_15 (Nat.le_of_ble_eq_true rfl) rfl ?_
    refine at_iconst C dX9_run_17 ?_
    refine at_istore C dX9_run_18 (Nat.le_of_ble_eq_true rfl) rfl ?_
    refine at_sub [3, 4, 5, 2, 1, 0] rfl ?_
    refine loopK_ind (res := res) (P := fun (q : Int × Int × Int) => inR q.1 → inR q.2.1 → inR q.2.2 → At p l e rm_X9_run s m args below meth c g 6 (MQ below (QV g s.heap.size res) args s 0 0 (AA g s.heap.size)) 20 [(0, vr g 68), (1, vi v1), (2, vi v2), (3, vi q.1), (4, vi q.2.1), (5, vi q.2.2)] [] σ) ?_ N _ hF (isB.r (Or.inl rfl)) (isB.r (Or.inl rfl)) (isB.r (Or.inr rfl))
    intro nx20 q ih20 hF
    obtain ⟨v3, v4, v5⟩ := q
    intro h3 h4 h5
    have hF : F_X9_run_B20 N nx7 nx20 v1 v2 v3 v4 v5 σ = some res := hF
    unfold F_X9_run_B20 at hF
    have J81 : ∀ (v2 : Int) (v3 : Int) (v4 : Int) (σ : Sto), inR v2 → inR v3 → inR v4 → OK σ → F_X9_run_J81 N nx7 v1 v2 v3 v4 σ = some res → At p l e rm_X9_run s m args below meth c g 6 (MQ below (QV g s.heap.size res) args s 0 0 (AA g s.heap.size)) 81 [(0, vr g 68), (1, vi v1), (2, vi v2), (3, vi v3), (4, vi v4)] [] σ := by
      intro v2 v3 v4 σ h2 h3 h4 ok hF
      unfold F_X9_run_J81 at hF
      refine at_aload_n C 0 dX9_run_81 rfl rfl ?_
      refine at_getr (k' := 69) C 1 fw_9_9 kd68 rfl (Nat.le_of_ble_eq_true rfl) rfl rfl dX9_run_82 ?_
      refine at_iload_n C 3 dX9_run_85 rfl rfl ?_
      obtain ⟨b2, hF⟩ := inb_some hF
      refine at_iaload C kd69 b2 dX9_run_86 ?_
      refine at_if_lt C (ok _ _) dX9_run_87 rfl (fun c3 => ?_) (fun c3 => ?_)
      · have hF := (if_pos c3).symm.trans hF
        refine at_aload_n C 0 dX9_run_91 rfl rfl ?_
        refine at_iload_n C 3 dX9_run_92 rfl rfl ?_
        refine at_iload C 4 dX9_run_93 rfl ?_
        refine at_aload_n C 0 dX9_run_95 rfl rfl ?_
        refine at_getr (k' := 69) C 1 fw_9_9 kd68 rfl (Nat.le_of_ble_eq_true rfl) rfl rfl dX9_run_96 ?_
        refine at_iload_n C 3 dX9_run_99 rfl rfl ?_
        refine at_iaload C kd69 b2 dX9_run_100 ?_
        refine at_ineg C dX9_run_101 ?_
        refine at_aload_n C 0 dX9_run_102 rfl rfl ?_
        refine at_getr (k' := 69) C 1 fw_9_9 kd68 rfl (Nat.le_of_ble_eq_true rfl) rfl rfl dX9_run_103 ?_
        refine at_iload C 4 dX9_run_106 rfl ?_
        obtain ⟨b4, hF⟩ := inb_some hF
        refine at_iaload C kd69 b4 dX9_run_108 ?_
        refine at_mmin C km_min w1108 (jneg_R _) (ok _ _) ⟨(Nat.le_of_ble_eq_true rfl), (Nat.le_of_ble_eq_true rfl)⟩ dX9_run_109 ?_
        obtain ⟨q5, eq5, hF⟩ := bind_some' hF
        refine at_callVv (ci := 9) C (c_X9_pay l g N v3 v4 (jmin (jneg (σ.1 69 v3)) (σ.1 69 v4)) σ q5 h3 h4 (jmin_R (jneg_R _) (ok _ _)) ok eq5) kv_X9_pay w1109 kd68 rfl rfl rfl rfl (Nat.le_of_ble_eq_true rfl) ⟨rfl, rfl, (Nat.le_of_ble_eq_true rfl), (Nat.le_of_ble_eq_true rfl)⟩ dX9_run_112 (fun okq5 => ?_)
        refine at_iinc C 2 dX9_run_115 rfl (Nat.le_of_ble_eq_true rfl) rfl ?_
        refine at_goto C dX9_run_118 rfl ?_
        refine at_sub [1, 2, 0] rfl ?_
        exact ih7 _ hF (ja_R _ _) okq5
      · have hF := (if_neg c3).symm.trans hF
        obtain rfl := Option.some.inj hF
        exact at_vret C hr hlk ok dX9_run_90
    refine at_iload C 5 dX9_run_20 rfl ?_
    refine at_iload_n C 1 dX9_run_22 rfl rfl ?_
    refine at_icmp_ge C h5 h1 dX9_run_23 rfl (fun c6 => ?_) (fun c6 => ?_)
    · have hF := (if_pos c6).symm.trans hF
      refine at_sub [0, 1, 2, 3, 4] rfl ?_
      exact J81 v2 v3 v4 σ h2 h3 h4 ok hF
    · have hF := (if_neg c6).symm.trans hF
      have J48 : ∀ (v4 : Int) (v5 : Int) (t0 : Int), inR v4 → inR v5 → inR t0 → F_X9_run_J48 N nx7 nx20 v1 v2 v4 v5 t0 σ = some res → At p l e rm_X9_run s m args below meth c g 6 (MQ below (QV g s.heap.size res) args s 0 0 (AA g s.heap.size)) 48 [(0, vr g 68), (1, vi v1), (2, vi v2), (4, vi v4), (5, vi v5)] [vi t0] σ := by
        intro v4 v5 t0 h4 h5 ht0 hF
        unfold F_X9_run_J48 at hF
        have J73 : ∀ (v3 : Int) (v5 : Int) (t0 : Int), inR v3 → inR v5 → inR t0 → F_X9_run_J73 N nx7 nx20 v1 v2 v3 v5 t0 σ = some res → At p l e rm_X9_run s m args below meth c g 6 (MQ below (QV g s.heap.size res) args s 0 0 (AA g s.heap.size)) 73 [(0, vr g 68), (1, vi v1), (2, vi v2), (3, vi v3), (5, vi v5)] [vi t0] σ := by
          intro v3 v5 t0 h3 h5 ht0 hF
          unfold F_X9_run_J73 at hF
          refine at_istore C dX9_run_73 (Nat.le_of_ble_eq_true rfl) rfl ?_
          refine at_iinc C 5 dX9_run_75 rfl (Nat.le_of_ble_eq_true rfl) rfl ?_
          refine at_goto C dX9_run_78 rfl ?_
          refine at_sub [2, 3, 4, 5, 1, 0] rfl ?_
          exact ih20 _ hF h3 ht0 (ja_R _ _)
        refine at_istore_n C dX9_run_48 rfl (Nat.le_of_ble_eq_true rfl) rfl ?_
        refine at_aload_n C 1 dX9_run_49 rfl rfl ?_
        refine at_getr (k' := 69) C 1 fw_9_9 kd68 rfl (Nat.le_of_ble_eq_true rfl) rfl rfl dX9_run_50 ?_
        refine at_iload C 5 dX9_run_53 rfl ?_
        obtain ⟨b7, hF⟩ := inb_some hF
        refine at_iaload C kd69 b7 dX9_run_55 ?_
        refine at_aload_n C 1 dX9_run_56 rfl rfl ?_
        refine at_getr (k' := 69) C 1 fw_9_9 kd68 rfl (Nat.le_of_ble_eq_true rfl) rfl rfl dX9_run_57 ?_
        refine at_iload C 4 dX9_run_60 rfl ?_
        obtain ⟨b8, hF⟩ := inb_some hF
        refine at_iaload C kd69 b8 dX9_run_62 ?_
        refine at_icmp_le C (ok _ _) (ok _ _) dX9_run_63 rfl (fun c9 => ?_) (fun c9 => ?_)
        · have hF := (if_pos c9).symm.trans hF
          refine at_iload C 4 dX9_run_71 rfl ?_
          refine at_sub [1, 2, 3, 0, 5] rfl ?_
          exact J73 t0 v5 v4 ht0 h5 h4 hF
        · have hF := (if_neg c9).symm.trans hF
          refine at_iload C 5 dX9_run_66 rfl ?_
          refine at_goto C dX9_run_68 rfl ?_
          refine at_sub [1, 2, 3, 0, 5] rfl ?_
          exact J73 t0 v5 v5 ht0 h5 h5 hF
      refine at_aload_n C 0 dX9_run_26 rfl rfl ?_
      refine at_getr (k' := 69) C 1 fw_9_9 kd68 rfl (Nat.le_of_ble_eq_true rfl) rfl rfl dX9_run_27 ?_
      refine at_iload C 5 dX9_run_30 rfl ?_
      obtain ⟨b10, hF⟩ := inb_some hF
      refine at_iaload C kd69 b10 dX9_run_32 ?_
      refine at_aload_n C 0 dX9_run_33 rfl rfl ?_
      refine at_getr (k' := 69) C 1 fw_9_9 kd68 rfl (Nat.le_of_ble_eq_true rfl) rfl rfl dX9_run_34 ?_
      refine at_iload_n C 3 dX9_run_37 rfl rfl ?_
      obtain ⟨b11, hF⟩ := inb_some hF
      refine at_iaload C kd69 b11 dX9_run_38 ?_
      refine at_icmp_ge C (ok _ _) (ok _ _) dX9_run_39 rfl (fun c12 => ?_) (fun c12 => ?_)
      · have hF := (if_pos c12).symm.trans hF
        refine at_iload_n C 3 dX9_run_47 rfl rfl ?_
        refine at_sub [0, 1, 2, 4, 5] rfl ?_
        exact J48 v4 v5 v3 h4 h5 h3 hF
      · have hF := (if_neg c12).symm.trans hF
        refine at_iload C 5 dX9_run_42 rfl ?_
        refine at_goto C dX9_run_44 rfl ?_
        refine at_sub [0, 1, 2, 4, 5] rfl ?_
        exact J48 v4 v5 v5 h4 h5 h5 hF
abbrev rm_X10_groupOf : Room := { frames := 1, cells := 0, slots := 0, locals := 23 }
def F_X10_groupOf_J51 (N : Nat) (nx6 : (Int × Int) → Option (Int)) (v2 : Int) (v3 : Int) (σ : Sto) : Option (Int) :=
  nx6 (v2, (ja v3 1))
def F_X10_groupOf_J45 (N : Nat) (nx6 : (Int × Int) → Option (Int)) (nx17 : (Int × Int) → Option (Int)) (v2 : Int) (v3 : Int) (v4 : Int) (σ : Sto) : Option (Int) :=
  nx17 (v2, (ja v4 1))
def F_X10_groupOf_B17 (N : Nat) (nx6 : (Int × Int) → Option (Int)) (nx17 : (Int × Int) → Option (Int)) (v3 : Int) (v2 : Int) (v4 : Int) (σ : Sto) : Option (Int) :=
  if (σ.1 46 5) ≤ v4 then (F_X10_groupOf_J51 N nx6 v2 v3 σ) else (if (jand (jshr v2 v4) 1) = 1 then ((F_X10_relativesOf N v4 σ).bind (fun q4 => F_X10_groupOf_J45 N nx6 nx17 (jor v2 q4) v3 v4 σ)) else (F_X10_groupOf_J45 N nx6 nx17 v2 v3 v4 σ))
def F_X10_groupOf_B6 (N : Nat) (nx6 : (Int × Int) → Option (Int))  (v2 : Int) (v3 : Int) (σ : Sto) : Option (Int) :=
  if (σ.1 46 5) ≤ v3 then (some v2) else (loopK (fun q nx17 => F_X10_groupOf_B17 N nx6 nx17 v3 q.1 q.2 σ) N (v2, 0))
def F_X10_groupOf (N : Nat) (v1 : Int) (σ : Sto) : Option (Int) :=
  loopK (fun q nx6 => F_X10_groupOf_B6 N  nx6  q.1 q.2 σ) N ((jshl 1 v1), 0)
set_option maxHeartbeats 4000000 in
set_option maxRecDepth 100000 in
theorem c_X10_groupOf (l : Launch) (g : Geo) (N : Nat) (v1 : Int) (σ : Sto) (res : Int) (h1 : inR v1) (ok : OK σ) (hF : F_X10_groupOf N v1 σ = some res) : MtI l g yX10_groupOf cX10_groupOf 5 (some .int) rm_X10_groupOf [vr g 46, vi v1] σ res σ inR := by
  intro sz
  refine Met.ofAt (own := RX10) (QQ := fun z => QI g z res σ inR) (by decide +kernel) (Nat.le_of_ble_eq_true rfl) rfl ?_
  intro p e s m args below meth c C hr hlk
  show At p l e rm_X10_groupOf s m args below meth c g 5 (MQ below (QI g s.heap.size res σ inR) args s 0 0 (AA g s.heap.size)) 0 [(0, vr g 46), (1, vi v1)] [] σ
  unfold F_X10_groupOf at hF
  refine at_iconst C dX10_groupOf_0 ?_
  refine at_iload_n C 1 dX10_groupOf_1 rfl rfl ?_
  refine at_ishl C dX10_groupOf_2 ?_
  refine at_istore_n C dX10_groupOf_3 rfl (Nat.le_of_ble_eq_true rfl) rfl ?_
  refine at_iconst C dX10_groupOf_4 ?_
  refine at_istore_n C dX10_groupOf_5 rfl (Nat.le_of_ble_eq_true rfl) rfl ?_
  refine at_sub [2, 1, 0] rfl ?_
  refine loopK_ind (res := res) (P := fun (q : Int × Int) => inR q.1 → inR q.2 → At p l e rm_X10_groupOf s m args below meth c g 5 (MQ below (QI g s.heap.size res σ inR) args s 0 0 (AA g s.heap.size)) 6 [(0, vr g 46), (2, vi q.1), (3, vi q.2)] [] σ) ?_ N _ hF (jshl_R _ _) (isB.r (Or.inl rfl))
  intro nx6 q ih6 hF
  obtain ⟨v2, v3⟩ := q
  intro h2 h3
  have hF : F_X10_groupOf_B6 N  nx6  v2 v3 σ = some res := hF
  unfold F_X10_groupOf_B6 at hF
  refine at_iload_n C 2 dX10_groupOf_6 rfl rfl ?_
  refine at_aload_n C 0 dX10_groupOf_7 rfl rfl ?_
  refine at_geti (jz := 5) C fw_10_28 kd46 rfl (Nat.le_of_ble_eq_true rfl) rfl rfl dX10_groupOf_8 ?_
  refine at_icmp_ge C h3 (ok _ _) dX10_groupOf_11 rfl (fun c1 => ?_) (fun c1 => ?_)
  · have hF := (if_pos c1).symm.trans hF
    refine at_iload_n C 1 dX10_groupOf_57 rfl rfl ?_
    obtain rfl := Option.some.inj hF
    exact at_iret C hr hlk h2 ok dX10_groupOf_58
  · have hF := (if_neg c1).symm.trans hF
    refine at_iconst C dX10_groupOf_14 ?_
    refine at_istore C dX10_groupOf_15 (Nat.le_of_ble_eq_true rfl) rfl ?_
    refine at_sub [1, 2, 3, 0] rfl ?_
    refine loopK_ind (res := res) (P := fun (q : Int × Int) => inR q.1 → inR q.2 → At p l e rm_X10_groupOf s m args below meth c g 5 (MQ below (QI g s.heap.size res σ inR) args s 0 0 (AA g s.heap.size)) 17 [(0, vr g 46), (2, vi q.1), (3, vi v3), (4, vi q.2)] [] σ) ?_ N _ hF h2 (isB.r (Or.inl rfl))
    intro nx17 q ih17 hF
    obtain ⟨v2, v4⟩ := q
    intro h2 h4
    have hF : F_X10_groupOf_B17 N nx6 nx17 v3 v2 v4 σ = some res := hF
    unfold F_X10_groupOf_B17 at hF
    have J51 : ∀ (v2 : Int) (v3 : Int), inR v2 → inR v3 → F_X10_groupOf_J51 N nx6 v2 v3 σ = some res → At p l e rm_X10_groupOf s m args below meth c g 5 (MQ below (QI g s.heap.size res σ inR) args s 0 0 (AA g s.heap.size)) 51 [(0, vr g 46), (2, vi v2), (3, vi v3)] [] σ := by
      intro v2 v3 h2 h3 hF
      unfold F_X10_groupOf_J51 at hF
      refine at_iinc C 2 dX10_groupOf_51 rfl (Nat.le_of_ble_eq_true rfl) rfl ?_
      refine at_goto C dX10_groupOf_54 rfl ?_
      refine at_sub [1, 2, 0] rfl ?_
      exact ih6 _ hF h2 (ja_R _ _)
    refine at_iload C 3 dX10_groupOf_17 rfl ?_
    refine at_aload_n C 0 dX10_groupOf_19 rfl rfl ?_
    refine at_geti (jz := 5) C fw_10_28 kd46 rfl (Nat.le_of_ble_eq_true rfl) rfl rfl dX10_groupOf_20 ?_
    refine at_icmp_ge C h4 (ok _ _) dX10_groupOf_23 rfl (fun c2 => ?_) (fun c2 => ?_)
    · have hF := (if_pos c2).symm.trans hF
      refine at_sub [0, 1, 2] rfl ?_
      exact J51 v2 v3 h2 h3 hF
    · have hF := (if_neg c2).symm.trans hF
      have J45 : ∀ (v2 : Int) (v4 : Int), inR v2 → inR v4 → F_X10_groupOf_J45 N nx6 nx17 v2 v3 v4 σ = some res → At p l e rm_X10_groupOf s m args below meth c g 5 (MQ below (QI g s.heap.size res σ inR) args s 0 0 (AA g s.heap.size)) 45 [(0, vr g 46), (2, vi v2), (3, vi v3), (4, vi v4)] [] σ := by
        intro v2 v4 h2 h4 hF
        unfold F_X10_groupOf_J45 at hF
        refine at_iinc C 3 dX10_groupOf_45 rfl (Nat.le_of_ble_eq_true rfl) rfl ?_
        refine at_goto C dX10_groupOf_48 rfl ?_
        refine at_sub [1, 2, 3, 0] rfl ?_
        exact ih17 _ hF h2 (ja_R _ _)
      refine at_iload_n C 1 dX10_groupOf_26 rfl rfl ?_
      refine at_iload C 3 dX10_groupOf_27 rfl ?_
      refine at_ishr C dX10_groupOf_29 ?_
      refine at_iconst C dX10_groupOf_30 ?_
      refine at_iand C dX10_groupOf_31 ?_
      refine at_iconst C dX10_groupOf_32 ?_
      refine at_icmp_ne C (jand_R _ _) (isB.r (Or.inr rfl)) dX10_groupOf_33 rfl (fun c3 => ?_) (fun c3 => ?_)
      · have hF := (if_neg c3).symm.trans hF
        exact J45 v2 v4 h2 h4 hF
      · have hF := (if_pos c3).symm.trans hF
        refine at_iload_n C 1 dX10_groupOf_36 rfl rfl ?_
        refine at_aload_n C 0 dX10_groupOf_37 rfl rfl ?_
        refine at_iload C 3 dX10_groupOf_38 rfl ?_
        obtain ⟨q4, eq4, hF⟩ := bind_some' hF
        refine at_callV (ci := 10) C (c_X10_relativesOf l g N v4 σ q4 h4 ok eq4) kv_X10_relativesOf w791 kd46 rfl rfl rfl rfl (Nat.le_of_ble_eq_true rfl) ⟨rfl, rfl, (Nat.le_of_ble_eq_true rfl), (Nat.le_of_ble_eq_true rfl)⟩ dX10_groupOf_40 (fun tq4 okq4 => ?_)
        refine at_ior C dX10_groupOf_43 ?_
        refine at_istore_n C dX10_groupOf_44 rfl (Nat.le_of_ble_eq_true rfl) rfl ?_
        refine at_sub [1, 0, 2, 3] rfl ?_
        exact J45 (jor v2 q4) v4 (jor_R _ _) h4 hF
abbrev rm_X10_countGroups : Room := { frames := 2, cells := 0, slots := 0, locals := 47 }
def F_X10_countGroups_J33 (N : Nat) (nx6 : (Int × Int × Int) → Option (Int)) (v1 : Int) (v2 : Int) (v3 : Int) (σ : Sto) : Option (Int) :=
  nx6 (v1, v2, (ja v3 1))
def F_X10_countGroups_B6 (N : Nat) (nx6 : (Int × Int × Int) → Option (Int))  (v1 : Int) (v2 : Int) (v3 : Int) (σ : Sto) : Option (Int) :=
  if (σ.1 46 5) ≤ v3 then (some v2) else (if (jand (jshr v1 v3) 1) = 0 then ((F_X10_groupOf N v3 σ).bind (fun q3 => F_X10_countGroups_J33 N nx6 (jor v1 q3) (ja v2 1) v3 σ)) else (F_X10_countGroups_J33 N nx6 v1 v2 v3 σ))
def F_X10_countGroups (N : Nat)  (σ : Sto) : Option (Int) :=
  loopK (fun q nx6 => F_X10_countGroups_B6 N  nx6  q.1 q.2.1 q.2.2 σ) N (0, 0, 0)
set_option maxHeartbeats 4000000 in
set_option maxRecDepth 100000 in
theorem c_X10_countGroups (l : Launch) (g : Geo) (N : Nat)  (σ : Sto) (res : Int)  (ok : OK σ) (hF : F_X10_countGroups N  σ = some res) : MtI l g yX10_countGroups cX10_countGroups 4 (some .int) rm_X10_countGroups [vr g 46] σ res σ inR := by
  intro sz
  refine Met.ofAt (own := RX10) (QQ := fun z => QI g z res σ inR) (by decide +kernel) (Nat.le_of_ble_eq_true rfl) rfl ?_
  intro p e s m args below meth c C hr hlk
  show At p l e rm_X10_countGroups s m args below meth c g 4 (MQ below (QI g s.heap.size res σ inR) args s 0 0 (AA g s.heap.size)) 0 [(0, vr g 46)] [] σ
  unfold F_X10_countGroups at hF
  refine at_iconst C dX10_countGroups_0 ?_
  refine at_istore_n C dX10_countGroups_1 rfl (Nat.le_of_ble_eq_true rfl) rfl ?_
  refine at_iconst C dX10_countGroups_2 ?_
  refine at_istore_n C dX10_countGroups_3 rfl (Nat.le_of_ble_eq_true rfl) rfl ?_
  refine at_iconst C dX10_countGroups_4 ?_
  refine at_istore_n C dX10_countGroups_5 rfl (Nat.le_of_ble_eq_true rfl) rfl ?_
  refine at_sub [3, 2, 1, 0] rfl ?_
  refine loopK_ind (res := res) (P := fun (q : Int × Int × Int) => inR q.1 → inR q.2.1 → inR q.2.2 → At p l e rm_X10_countGroups s m args below meth c g 4 (MQ below (QI g s.heap.size res σ inR) args s 0 0 (AA g s.heap.size)) 6 [(0, vr g 46), (1, vi q.1), (2, vi q.2.1), (3, vi q.2.2)] [] σ) ?_ N _ hF (isB.r (Or.inl rfl)) (isB.r (Or.inl rfl)) (isB.r (Or.inl rfl))
  intro nx6 q ih6 hF
  obtain ⟨v1, v2, v3⟩ := q
  intro h1 h2 h3
  have hF : F_X10_countGroups_B6 N  nx6  v1 v2 v3 σ = some res := hF
  unfold F_X10_countGroups_B6 at hF
  refine at_iload_n C 3 dX10_countGroups_6 rfl rfl ?_
  refine at_aload_n C 0 dX10_countGroups_7 rfl rfl ?_
  refine at_geti (jz := 5) C fw_10_28 kd46 rfl (Nat.le_of_ble_eq_true rfl) rfl rfl dX10_countGroups_8 ?_
  refine at_icmp_ge C h3 (ok _ _) dX10_countGroups_11 rfl (fun c1 => ?_) (fun c1 => ?_)
  · have hF := (if_pos c1).symm.trans hF
    refine at_iload_n C 2 dX10_countGroups_39 rfl rfl ?_
    obtain rfl := Option.some.inj hF
    exact at_iret C hr hlk h2 ok dX10_countGroups_40
  · have hF := (if_neg c1).symm.trans hF
    have J33 : ∀ (v1 : Int) (v2 : Int) (v3 : Int), inR v1 → inR v2 → inR v3 → F_X10_countGroups_J33 N nx6 v1 v2 v3 σ = some res → At p l e rm_X10_countGroups s m args below meth c g 4 (MQ below (QI g s.heap.size res σ inR) args s 0 0 (AA g s.heap.size)) 33 [(0, vr g 46), (1, vi v1), (2, vi v2), (3, vi v3)] [] σ := by
      intro v1 v2 v3 h1 h2 h3 hF
      unfold F_X10_countGroups_J33 at hF
      refine at_iinc C 3 dX10_countGroups_33 rfl (Nat.le_of_ble_eq_true rfl) rfl ?_
      refine at_goto C dX10_countGroups_36 rfl ?_
      refine at_sub [1, 2, 3, 0] rfl ?_
      exact ih6 _ hF h1 h2 (ja_R _ _)
    refine at_iload_n C 1 dX10_countGroups_14 rfl rfl ?_
    refine at_iload_n C 3 dX10_countGroups_15 rfl rfl ?_
    refine at_ishr C dX10_countGroups_16 ?_
    refine at_iconst C dX10_countGroups_17 ?_
    refine at_iand C dX10_countGroups_18 ?_
    refine at_if_ne C (jand_R _ _) dX10_countGroups_19 rfl (fun c2 => ?_) (fun c2 => ?_)
    · have hF := (if_neg c2).symm.trans hF
      exact J33 v1 v2 v3 h1 h2 h3 hF
    · have hF := (if_pos c2).symm.trans hF
      refine at_iload_n C 1 dX10_countGroups_22 rfl rfl ?_
      refine at_aload_n C 0 dX10_countGroups_23 rfl rfl ?_
      refine at_iload_n C 3 dX10_countGroups_24 rfl rfl ?_
      obtain ⟨q3, eq3, hF⟩ := bind_some' hF
      refine at_callV (ci := 10) C (c_X10_groupOf l g N v3 σ q3 h3 ok eq3) kv_X10_groupOf w787 kd46 rfl rfl rfl rfl (Nat.le_of_ble_eq_true rfl) ⟨rfl, rfl, (Nat.le_of_ble_eq_true rfl), (Nat.le_of_ble_eq_true rfl)⟩ dX10_countGroups_25 (fun tq3 okq3 => ?_)
      refine at_ior C dX10_countGroups_28 ?_
      refine at_istore_n C dX10_countGroups_29 rfl (Nat.le_of_ble_eq_true rfl) rfl ?_
      refine at_iinc C 2 dX10_countGroups_30 rfl (Nat.le_of_ble_eq_true rfl) rfl ?_
      refine at_sub [2, 1, 0, 3] rfl ?_
      exact J33 (jor v1 q3) (ja v2 1) v3 (jor_R _ _) (ja_R _ _) h3 hF
abbrev rm_X10_stepsBetween : Room := { frames := 0, cells := 0, slots := 0, locals := 0 }
def F_X10_stepsBetween_J127 (N : Nat)  (v2 : Int) (σ : Sto) : Option (Int × Sto) :=
  inb v2 8 (some ((σ.1 51 v2), σ))
def F_X10_stepsBetween_J121 (N : Nat) (nx2 : (Int × Sto) → Option (Int × Sto)) (v1 : Int) (v2 : Int) (v3 : Int) (σ : Sto) : Option (Int × Sto) :=
  nx2 ((ja v3 1), σ)
def F_X10_stepsBetween_J115 (N : Nat) (nx2 : (Int × Sto) → Option (Int × Sto)) (nx30 : (Int × Sto) → Option (Int × Sto)) (v1 : Int) (v2 : Int) (v3 : Int) (v4 : Int) (σ : Sto) : Option (Int × Sto) :=
  nx30 ((ja v4 1), σ)
def F_X10_stepsBetween_J100 (N : Nat) (nx2 : (Int × Sto) → Option (Int × Sto)) (nx30 : (Int × Sto) → Option (Int × Sto)) (v1 : Int) (v2 : Int) (v3 : Int) (v4 : Int) (σ : Sto) : Option (Int × Sto) :=
  inb v4 8 (inb v3 8 (F_X10_stepsBetween_J115 N nx2 nx30 v1 v2 v3 v4 (upI σ 51 v3 (ja (σ.1 51 v4) 1))))
def F_X10_stepsBetween_J66 (N : Nat) (nx2 : (Int × Sto) → Option (Int × Sto)) (nx30 : (Int × Sto) → Option (Int × Sto)) (v1 : Int) (v2 : Int) (v3 : Int) (v4 : Int) (t0 : Int) (σ : Sto) : Option (Int × Sto) :=
  if t0 = 0 then (F_X10_stepsBetween_J115 N nx2 nx30 v1 v2 v3 v4 σ) else (inb v3 8 (if (σ.1 51 v3) < 0 then (F_X10_stepsBetween_J100 N nx2 nx30 v1 v2 v3 v4 σ) else (inb v4 8 (if (σ.1 51 v3) ≤ (ja (σ.1 51 v4) 1) then (F_X10_stepsBetween_J115 N nx2 nx30 v1 v2 v3 v4 σ) else (F_X10_stepsBetween_J100 N nx2 nx30 v1 v2 v3 v4 σ)))))
def F_X10_stepsBetween_J65 (N : Nat) (nx2 : (Int × Sto) → Option (Int × Sto)) (nx30 : (Int × Sto) → Option (Int × Sto)) (v1 : Int) (v2 : Int) (v3 : Int) (v4 : Int) (σ : Sto) : Option (Int × Sto) :=
  F_X10_stepsBetween_J66 N nx2 nx30 v1 v2 v3 v4 0 σ
def F_X10_stepsBetween_B30 (N : Nat) (nx2 : (Int × Sto) → Option (Int × Sto)) (nx30 : (Int × Sto) → Option (Int × Sto)) (v1 : Int) (v2 : Int) (v3 : Int) (v4 : Int) (σ : Sto) : Option (Int × Sto) :=
  if v3 ≤ v4 then (F_X10_stepsBetween_J121 N nx2 v1 v2 v3 σ) else (inb v4 8 (if (σ.1 51 v4) < 0 then (F_X10_stepsBetween_J65 N nx2 nx30 v1 v2 v3 v4 σ) else (inb (ja (jm v4 8) v3) 64 (if (σ.1 47 (ja (jm v4 8) v3)) ≤ 0 then (F_X10_stepsBetween_J65 N nx2 nx30 v1 v2 v3 v4 σ) else (F_X10_stepsBetween_J66 N nx2 nx30 v1 v2 v3 v4 1 σ)))))
def F_X10_stepsBetween_J26 (N : Nat) (nx2 : (Int × Sto) → Option (Int × Sto)) (v1 : Int) (v2 : Int) (v3 : Int) (t1 : Int) (t2 : Int) (σ : Sto) : Option (Int × Sto) :=
  inb t1 8 (loopK (fun q nx30 => F_X10_stepsBetween_B30 N nx2 nx30 v1 v2 v3 q.1 q.2) N (v1, (upI σ 51 t1 t2)))
def F_X10_stepsBetween_B2 (N : Nat) (nx2 : (Int × Sto) → Option (Int × Sto)) (v1 : Int) (v2 : Int) (v3 : Int) (σ : Sto) : Option (Int × Sto) :=
  if (σ.1 46 5) ≤ v3 then (F_X10_stepsBetween_J127 N  v2 σ) else (if v3 = v1 then (F_X10_stepsBetween_J26 N nx2 v1 v2 v3 v3 0 σ) else (F_X10_stepsBetween_J26 N nx2 v1 v2 v3 v3 (-2) σ))
def F_X10_stepsBetween (N : Nat) (v1 : Int) (v2 : Int) (σ : Sto) : Option (Int × Sto) :=
  loopK (fun q nx2 => F_X10_stepsBetween_B2 N  nx2 v1 v2 q.1 q.2) N (0, σ)
set_option maxHeartbeats 4000000 in
set_option maxRecDepth 100000 in
theorem c_X10_stepsBetween (l : Launch) (g : Geo) (N : Nat) (v1 : Int) (v2 : Int) (σ : Sto) (res : Int × Sto) (h1 : inR v1) (h2 : inR v2) (ok : OK σ) (hF : F_X10_stepsBetween N v1 v2 σ = some res) : MtI l g yX10_stepsBetween cX10_stepsBetween 6 (some .int) rm_X10_stepsBetween [vr g 46, vi v1, vi v2] σ res.1 res.2 inR := by
  intro sz
  refine Met.ofAt (own := RX10) (QQ := fun z => QI g z res.1 res.2 inR) (by decide +kernel) (Nat.le_of_ble_eq_true rfl) rfl ?_
  intro p e s m args below meth c C hr hlk
  show At p l e rm_X10_stepsBetween s m args below meth c g 6 (MQ below (QI g s.heap.size res.1 res.2 inR) args s 0 0 (AA g s.heap.size)) 0 [(0, vr g 46), (1, vi v1), (2, vi v2)] [] σ
  unfold F_X10_stepsBetween at hF
  refine at_iconst C dX10_stepsBetween_0 ?_
  refine at_istore_n C dX10_stepsBetween_1 rfl (Nat.le_of_ble_eq_true rfl) rfl ?_
  refine at_sub [1, 2, 3, 0] rfl ?_
  refine loopK_ind (res := res) (P := fun (q : Int × Sto) => inR q.1 → OK q.2 → At p l e rm_X10_stepsBetween s m args below meth c g 6 (MQ below (QI g s.heap.size res.1 res.2 inR) args s 0 0 (AA g s.heap.size)) 2 [(0, vr g 46), (1, vi v1), (2, vi v2), (3, vi q.1)] [] q.2) ?_ N _ hF (isB.r (Or.inl rfl)) ok
  intro nx2 q ih2 hF
  obtain ⟨v3, σ⟩ := q
  intro h3 ok
  have hF : F_X10_stepsBetween_B2 N  nx2 v1 v2 v3 σ = some res := hF
  unfold F_X10_stepsBetween_B2 at hF
  have J127 : ∀ (v2 : Int) (σ : Sto), inR v2 → OK σ → F_X10_stepsBetween_J127 N  v2 σ = some res → At p l e rm_X10_stepsBetween s m args below meth c g 6 (MQ below (QI g s.heap.size res.1 res.2 inR) args s 0 0 (AA g s.heap.size)) 127 [(0, vr g 46), (2, vi v2)] [] σ := by
    intro v2 σ h2 ok hF
    unfold F_X10_stepsBetween_J127 at hF
    refine at_aload_n C 0 dX10_stepsBetween_127 rfl rfl ?_
    refine at_getr (k' := 51) C 5 fw_10_25 kd46 rfl (Nat.le_of_ble_eq_true rfl) rfl rfl dX10_stepsBetween_128 ?_
    refine at_iload_n C 1 dX10_stepsBetween_131 rfl rfl ?_
    obtain ⟨b1, hF⟩ := inb_some hF
    refine at_iaload C kd51 b1 dX10_stepsBetween_132 ?_
    obtain rfl := Option.some.inj hF
    exact at_iret C hr hlk (ok _ _) ok dX10_stepsBetween_133
  refine at_iload_n C 3 dX10_stepsBetween_2 rfl rfl ?_
  refine at_aload_n C 0 dX10_stepsBetween_3 rfl rfl ?_
  refine at_geti (jz := 5) C fw_10_28 kd46 rfl (Nat.le_of_ble_eq_true rfl) rfl rfl dX10_stepsBetween_4 ?_
  refine at_icmp_ge C h3 (ok _ _) dX10_stepsBetween_7 rfl (fun c2 => ?_) (fun c2 => ?_)
  · have hF := (if_pos c2).symm.trans hF
    refine at_sub [0, 2] rfl ?_
    exact J127 v2 σ h2 ok hF
  · have hF := (if_neg c2).symm.trans hF
    have J26 : ∀ (v3 : Int) (t1 : Int) (t2 : Int) (σ : Sto), inR v3 → inR t1 → inR t2 → OK σ → F_X10_stepsBetween_J26 N nx2 v1 v2 v3 t1 t2 σ = some res → At p l e rm_X10_stepsBetween s m args below meth c g 6 (MQ below (QI g s.heap.size res.1 res.2 inR) args s 0 0 (AA g s.heap.size)) 26 [(0, vr g 46), (1, vi v1), (2, vi v2), (3, vi v3)] [vi t2, vi t1, vr g 51] σ := by
      intro v3 t1 t2 σ h3 ht1 ht2 ok hF
      unfold F_X10_stepsBetween_J26 at hF
      obtain ⟨b3, hF⟩ := inb_some hF
      refine at_iastore C kd51 b3 dX10_stepsBetween_26 ?_
      refine at_iload_n C 1 dX10_stepsBetween_27 rfl rfl ?_
      refine at_istore C dX10_stepsBetween_28 (Nat.le_of_ble_eq_true rfl) rfl ?_
      refine at_sub [1, 2, 3, 4, 0] rfl ?_
      refine loopK_ind (res := res) (P := fun (q : Int × Sto) => inR q.1 → OK q.2 → At p l e rm_X10_stepsBetween s m args below meth c g 6 (MQ below (QI g s.heap.size res.1 res.2 inR) args s 0 0 (AA g s.heap.size)) 30 [(0, vr g 46), (1, vi v1), (2, vi v2), (3, vi v3), (4, vi q.1)] [] q.2) ?_ N _ hF h1 (OK_up ok ht2)
      intro nx30 q ih30 hF
      obtain ⟨v4, σ⟩ := q
      intro h4 ok
      have hF : F_X10_stepsBetween_B30 N nx2 nx30 v1 v2 v3 v4 σ = some res := hF
      unfold F_X10_stepsBetween_B30 at hF
      have J121 : ∀ (v3 : Int) (σ : Sto), inR v3 → OK σ → F_X10_stepsBetween_J121 N nx2 v1 v2 v3 σ = some res → At p l e rm_X10_stepsBetween s m args below meth c g 6 (MQ below (QI g s.heap.size res.1 res.2 inR) args s 0 0 (AA g s.heap.size)) 121 [(0, vr g 46), (1, vi v1), (2, vi v2), (3, vi v3)] [] σ := by
        intro v3 σ h3 ok hF
        unfold F_X10_stepsBetween_J121 at hF
        refine at_iinc C 3 dX10_stepsBetween_121 rfl (Nat.le_of_ble_eq_true rfl) rfl ?_
        refine at_goto C dX10_stepsBetween_124 rfl ?_
        refine at_sub [1, 2, 3, 0] rfl ?_
        exact ih2 _ hF (ja_R _ _) ok
      refine at_iload C 4 dX10_stepsBetween_30 rfl ?_
      refine at_iload_n C 3 dX10_stepsBetween_32 rfl rfl ?_
      refine at_icmp_ge C h4 h3 dX10_stepsBetween_33 rfl (fun c4 => ?_) (fun c4 => ?_)
      · have hF := (if_pos c4).symm.trans hF
        refine at_sub [0, 1, 2, 3] rfl ?_
        exact J121 v3 σ h3 ok hF
      · have hF := (if_neg c4).symm.trans hF
        have J66 : ∀ (v4 : Int) (t0 : Int) (σ : Sto), inR v4 → isB t0 → OK σ → F_X10_stepsBetween_J66 N nx2 nx30 v1 v2 v3 v4 t0 σ = some res → At p l e rm_X10_stepsBetween s m args below meth c g 6 (MQ below (QI g s.heap.size res.1 res.2 inR) args s 0 0 (AA g s.heap.size)) 66 [(0, vr g 46), (1, vi v1), (2, vi v2), (3, vi v3), (4, vi v4)] [vi t0] σ := by
          intro v4 t0 σ h4 ht0 ok hF
          unfold F_X10_stepsBetween_J66 at hF
          have J115 : ∀ (v4 : Int) (σ : Sto), inR v4 → OK σ → F_X10_stepsBetween_J115 N nx2 nx30 v1 v2 v3 v4 σ = some res → At p l e rm_X10_stepsBetween s m args below meth c g 6 (MQ below (QI g s.heap.size res.1 res.2 inR) args s 0 0 (AA g s.heap.size)) 115 [(0, vr g 46), (1, vi v1), (2, vi v2), (3, vi v3), (4, vi v4)] [] σ := by
            intro v4 σ h4 ok hF
            unfold F_X10_stepsBetween_J115 at hF
            refine at_iinc C 4 dX10_stepsBetween_115 rfl (Nat.le_of_ble_eq_true rfl) rfl ?_
            refine at_goto C dX10_stepsBetween_118 rfl ?_
            refine at_sub [1, 2, 3, 4, 0] rfl ?_
            exact ih30 _ hF (ja_R _ _) ok
          refine at_istore C dX10_stepsBetween_66 (Nat.le_of_ble_eq_true rfl) rfl ?_
          refine at_iload C 0 dX10_stepsBetween_68 rfl ?_
          refine at_if_eq C (isB.r ht0) dX10_stepsBetween_70 rfl (fun c5 => ?_) (fun c5 => ?_)
          · have hF := (if_pos c5).symm.trans hF
            refine at_sub [1, 2, 3, 4, 5] rfl ?_
            exact J115 v4 σ h4 ok hF
          · have hF := (if_neg c5).symm.trans hF
            have J100 : ∀ (v4 : Int) (σ : Sto), inR v4 → OK σ → F_X10_stepsBetween_J100 N nx2 nx30 v1 v2 v3 v4 σ = some res → At p l e rm_X10_stepsBetween s m args below meth c g 6 (MQ below (QI g s.heap.size res.1 res.2 inR) args s 0 0 (AA g s.heap.size)) 100 [(0, vr g 46), (1, vi v1), (2, vi v2), (3, vi v3), (4, vi v4)] [] σ := by
              intro v4 σ h4 ok hF
              unfold F_X10_stepsBetween_J100 at hF
              refine at_aload_n C 0 dX10_stepsBetween_100 rfl rfl ?_
              refine at_getr (k' := 51) C 5 fw_10_25 kd46 rfl (Nat.le_of_ble_eq_true rfl) rfl rfl dX10_stepsBetween_101 ?_
              refine at_iload_n C 3 dX10_stepsBetween_104 rfl rfl ?_
              refine at_aload_n C 0 dX10_stepsBetween_105 rfl rfl ?_
              refine at_getr (k' := 51) C 5 fw_10_25 kd46 rfl (Nat.le_of_ble_eq_true rfl) rfl rfl dX10_stepsBetween_106 ?_
              refine at_iload C 4 dX10_stepsBetween_109 rfl ?_
              obtain ⟨b6, hF⟩ := inb_some hF
              refine at_iaload C kd51 b6 dX10_stepsBetween_111 ?_
              refine at_iconst C dX10_stepsBetween_112 ?_
              refine at_iadd C dX10_stepsBetween_113 ?_
              obtain ⟨b7, hF⟩ := inb_some hF
              refine at_iastore C kd51 b7 dX10_stepsBetween_114 ?_
              exact J115 v4 (upI σ 51 v3 (ja (σ.1 51 v4) 1)) h4 (OK_up ok (ja_R _ _)) hF
            refine at_aload_n C 1 dX10_stepsBetween_73 rfl rfl ?_
            refine at_getr (k' := 51) C 5 fw_10_25 kd46 rfl (Nat.le_of_ble_eq_true rfl) rfl rfl dX10_stepsBetween_74 ?_
            refine at_iload_n C 4 dX10_stepsBetween_77 rfl rfl ?_
            obtain ⟨b8, hF⟩ := inb_some hF
            refine at_iaload C kd51 b8 dX10_stepsBetween_78 ?_
            refine at_if_lt C (ok _ _) dX10_stepsBetween_79 rfl (fun c9 => ?_) (fun c9 => ?_)
            · have hF := (if_pos c9).symm.trans hF
              refine at_sub [1, 2, 3, 4, 5] rfl ?_
              exact J100 v4 σ h4 ok hF
            · have hF := (if_neg c9).symm.trans hF
              refine at_aload_n C 1 dX10_stepsBetween_82 rfl rfl ?_
              refine at_getr (k' := 51) C 5 fw_10_25 kd46 rfl (Nat.le_of_ble_eq_true rfl) rfl rfl dX10_stepsBetween_83 ?_
              refine at_iload C 5 dX10_stepsBetween_86 rfl ?_
              obtain ⟨b10, hF⟩ := inb_some hF
              refine at_iaload C kd51 b10 dX10_stepsBetween_88 ?_
              refine at_iconst C dX10_stepsBetween_89 ?_
              refine at_iadd C dX10_stepsBetween_90 ?_
              refine at_aload_n C 1 dX10_stepsBetween_91 rfl rfl ?_
              refine at_getr (k' := 51) C 5 fw_10_25 kd46 rfl (Nat.le_of_ble_eq_true rfl) rfl rfl dX10_stepsBetween_92 ?_
              refine at_iload_n C 4 dX10_stepsBetween_95 rfl rfl ?_
              refine at_iaload C kd51 b8 dX10_stepsBetween_96 ?_
              refine at_icmp_ge C (ja_R _ _) (ok _ _) dX10_stepsBetween_97 rfl (fun c11 => ?_) (fun c11 => ?_)
              · have hF := (if_pos c11).symm.trans hF
                refine at_sub [1, 2, 3, 4, 5] rfl ?_
                exact J115 v4 σ h4 ok hF
              · have hF := (if_neg c11).symm.trans hF
                refine at_sub [1, 2, 3, 4, 5] rfl ?_
                exact J100 v4 σ h4 ok hF
        have J65 : ∀ (v4 : Int) (σ : Sto), inR v4 → OK σ → F_X10_stepsBetween_J65 N nx2 nx30 v1 v2 v3 v4 σ = some res → At p l e rm_X10_stepsBetween s m args below meth c g 6 (MQ below (QI g s.heap.size res.1 res.2 inR) args s 0 0 (AA g s.heap.size)) 65 [(0, vr g 46), (1, vi v1), (2, vi v2), (3, vi v3), (4, vi v4)] [] σ := by
          intro v4 σ h4 ok hF
          unfold F_X10_stepsBetween_J65 at hF
          refine at_iconst C dX10_stepsBetween_65 ?_
          exact J66 v4 0 σ h4 (Or.inl rfl) ok hF
        refine at_aload_n C 0 dX10_stepsBetween_36 rfl rfl ?_
        refine at_getr (k' := 51) C 5 fw_10_25 kd46 rfl (Nat.le_of_ble_eq_true rfl) rfl rfl dX10_stepsBetween_37 ?_
        refine at_iload C 4 dX10_stepsBetween_40 rfl ?_
        obtain ⟨b12, hF⟩ := inb_some hF
        refine at_iaload C kd51 b12 dX10_stepsBetween_42 ?_
        refine at_if_lt C (ok _ _) dX10_stepsBetween_43 rfl (fun c13 => ?_) (fun c13 => ?_)
        · have hF := (if_pos c13).symm.trans hF
          exact J65 v4 σ h4 ok hF
        · have hF := (if_neg c13).symm.trans hF
          refine at_aload_n C 0 dX10_stepsBetween_46 rfl rfl ?_
          refine at_getr (k' := 47) C 1 fw_10_9 kd46 rfl (Nat.le_of_ble_eq_true rfl) rfl rfl dX10_stepsBetween_47 ?_
          refine at_iload C 4 dX10_stepsBetween_50 rfl ?_
          refine at_bipush C dX10_stepsBetween_52 (by decide) ?_
          refine at_imul C dX10_stepsBetween_54 ?_
          refine at_iload_n C 3 dX10_stepsBetween_55 rfl rfl ?_
          refine at_iadd C dX10_stepsBetween_56 ?_
          obtain ⟨b14, hF⟩ := inb_some hF
          refine at_iaload C kd47 b14 dX10_stepsBetween_57 ?_
          refine at_if_le C (ok _ _) dX10_stepsBetween_58 rfl (fun c15 => ?_) (fun c15 => ?_)
          · have hF := (if_pos c15).symm.trans hF
            exact J65 v4 σ h4 ok hF
          · have hF := (if_neg c15).symm.trans hF
            refine at_iconst C dX10_stepsBetween_61 ?_
            refine at_goto C dX10_stepsBetween_62 rfl ?_
            exact J66 v4 1 σ h4 (Or.inr rfl) ok hF
    refine at_aload_n C 0 dX10_stepsBetween_10 rfl rfl ?_
    refine at_getr (k' := 51) C 5 fw_10_25 kd46 rfl (Nat.le_of_ble_eq_true rfl) rfl rfl dX10_stepsBetween_11 ?_
    refine at_iload_n C 3 dX10_stepsBetween_14 rfl rfl ?_
    refine at_iload_n C 3 dX10_stepsBetween_15 rfl rfl ?_
    refine at_iload_n C 1 dX10_stepsBetween_16 rfl rfl ?_
    refine at_icmp_ne C h3 h1 dX10_stepsBetween_17 rfl (fun c16 => ?_) (fun c16 => ?_)
    · have hF := (if_neg c16).symm.trans hF
      refine at_bipush C dX10_stepsBetween_24 (by decide) ?_
      exact J26 v3 v3 (-2) σ h3 h3 ⟨by decide, by decide⟩ ok hF
    · have hF := (if_pos c16).symm.trans hF
      refine at_iconst C dX10_stepsBetween_20 ?_
      refine at_goto C dX10_stepsBetween_21 rfl ?_
      exact J26 v3 v3 0 σ h3 h3 (isB.r (Or.inl rfl)) ok hF
abbrev rm_X11_feed : Room := { frames := 1, cells := 0, slots := 0, locals := 22 }
def F_X11_feed (N : Nat) (v1 : Int) (v2 : Int) (v3 : Int) (v4 : Int) (v5 : Int) (σ : Sto) : Option (Int × Sto) :=
  if (ja (σ.1 1 1) 20) ≤ 700 then ((F_X8_put N v1 σ).bind (fun q2 => (F_X8_put N v2 q2).bind (fun q3 => (F_X8_put N v3 q3).bind (fun q4 => (F_X8_put N v4 q4).bind (fun q5 => (F_X8_put N v5 q5).bind (fun q6 => some ((q6.1 1 1), q6))))))) else (some ((-1), σ))
set_option maxHeartbeats 4000000 in
set_option maxRecDepth 100000 in
theorem c_X11_feed (l : Launch) (g : Geo) (N : Nat) (v1 : Int) (v2 : Int) (v3 : Int) (v4 : Int) (v5 : Int) (σ : Sto) (res : Int × Sto) (h1 : inR v1) (h2 : inR v2) (h3 : inR v3) (h4 : inR v4) (h5 : inR v5) (ok : OK σ) (hF : F_X11_feed N v1 v2 v3 v4 v5 σ = some res) : MtI l g yX11_feed cX11_feed 6 (some .int) rm_X11_feed [vr g 0, vi v1, vi v2, vi v3, vi v4, vi v5] σ res.1 res.2 inR := by
  intro sz
  refine Met.ofAt (own := RX11) (QQ := fun z => QI g z res.1 res.2 inR) (by decide +kernel) (Nat.le_of_ble_eq_true rfl) rfl ?_
  intro p e s m args below meth c C hr hlk
  show At p l e rm_X11_feed s m args below meth c g 6 (MQ below (QI g s.heap.size res.1 res.2 inR) args s 0 0 (AA g s.heap.size)) 0 [(0, vr g 0), (1, vi v1), (2, vi v2), (3, vi v3), (4, vi v4), (5, vi v5)] [] σ
  unfold F_X11_feed at hF
  refine at_aload_n C 0 dX11_feed_0 rfl rfl ?_
  refine at_getr (k' := 1) C 1 fw_11_10 kd0 rfl (Nat.le_of_ble_eq_true rfl) rfl rfl dX11_feed_1 ?_
  refine at_geti (jz := 1) C fw_11_105 kd1 rfl (Nat.le_of_ble_eq_true rfl) rfl rfl dX11_feed_4 ?_
  refine at_bipush C dX11_feed_7 (by decide) ?_
  refine at_iadd C dX11_feed_9 ?_
  refine at_sipush C dX11_feed_10 (by decide) ?_
  refine at_icmp_le C (ja_R _ _) ⟨by decide, by decide⟩ dX11_feed_13 rfl (fun c1 => ?_) (fun c1 => ?_)
  · have hF := (if_pos c1).symm.trans hF
    refine at_aload_n C 0 dX11_feed_18 rfl rfl ?_
    refine at_getr (k' := 1) C 1 fw_11_10 kd0 rfl (Nat.le_of_ble_eq_true rfl) rfl rfl dX11_feed_19 ?_
    refine at_iload_n C 1 dX11_feed_22 rfl rfl ?_
    obtain ⟨q2, eq2, hF⟩ := bind_some' hF
    refine at_callVv (ci := 8) C (c_X8_put l g N v1 σ q2 h1 ok eq2) kv_X8_put w578 kd1 rfl rfl rfl rfl (Nat.le_of_ble_eq_true rfl) ⟨rfl, rfl, (Nat.le_of_ble_eq_true rfl), (Nat.le_of_ble_eq_true rfl)⟩ dX11_feed_23 (fun okq2 => ?_)
    refine at_aload_n C 0 dX11_feed_26 rfl rfl ?_
    refine at_getr (k' := 1) C 1 fw_11_10 kd0 rfl (Nat.le_of_ble_eq_true rfl) rfl rfl dX11_feed_27 ?_
    refine at_iload_n C 2 dX11_feed_30 rfl rfl ?_
    obtain ⟨q3, eq3, hF⟩ := bind_some' hF
    refine at_callVv (ci := 8) C (c_X8_put l g N v2 q2 q3 h2 okq2 eq3) kv_X8_put w578 kd1 rfl rfl rfl rfl (Nat.le_of_ble_eq_true rfl) ⟨rfl, rfl, (Nat.le_of_ble_eq_true rfl), (Nat.le_of_ble_eq_true rfl)⟩ dX11_feed_31 (fun okq3 => ?_)
    refine at_aload_n C 0 dX11_feed_34 rfl rfl ?_
    refine at_getr (k' := 1) C 1 fw_11_10 kd0 rfl (Nat.le_of_ble_eq_true rfl) rfl rfl dX11_feed_35 ?_
    refine at_iload_n C 3 dX11_feed_38 rfl rfl ?_
    obtain ⟨q4, eq4, hF⟩ := bind_some' hF
    refine at_callVv (ci := 8) C (c_X8_put l g N v3 q3 q4 h3 okq3 eq4) kv_X8_put w578 kd1 rfl rfl rfl rfl (Nat.le_of_ble_eq_true rfl) ⟨rfl, rfl, (Nat.le_of_ble_eq_true rfl), (Nat.le_of_ble_eq_true rfl)⟩ dX11_feed_39 (fun okq4 => ?_)
    refine at_aload_n C 0 dX11_feed_42 rfl rfl ?_
    refine at_getr (k' := 1) C 1 fw_11_10 kd0 rfl (Nat.le_of_ble_eq_true rfl) rfl rfl dX11_feed_43 ?_
    refine at_iload C 4 dX11_feed_46 rfl ?_
    obtain ⟨q5, eq5, hF⟩ := bind_some' hF
    refine at_callVv (ci := 8) C (c_X8_put l g N v4 q4 q5 h4 okq4 eq5) kv_X8_put w578 kd1 rfl rfl rfl rfl (Nat.le_of_ble_eq_true rfl) ⟨rfl, rfl, (Nat.le_of_ble_eq_true rfl), (Nat.le_of_ble_eq_true rfl)⟩ dX11_feed_48 (fun okq5 => ?_)
    refine at_aload_n C 0 dX11_feed_51 rfl rfl ?_
    refine at_getr (k' := 1) C 1 fw_11_10 kd0 rfl (Nat.le_of_ble_eq_true rfl) rfl rfl dX11_feed_52 ?_
    refine at_iload C 5 dX11_feed_55 rfl ?_
    obtain ⟨q6, eq6, hF⟩ := bind_some' hF
    refine at_callVv (ci := 8) C (c_X8_put l g N v5 q5 q6 h5 okq5 eq6) kv_X8_put w578 kd1 rfl rfl rfl rfl (Nat.le_of_ble_eq_true rfl) ⟨rfl, rfl, (Nat.le_of_ble_eq_true rfl), (Nat.le_of_ble_eq_true rfl)⟩ dX11_feed_57 (fun okq6 => ?_)
    refine at_aload_n C 0 dX11_feed_60 rfl rfl ?_
    refine at_getr (k' := 1) C 1 fw_11_10 kd0 rfl (Nat.le_of_ble_eq_true rfl) rfl rfl dX11_feed_61 ?_
    refine at_geti (jz := 1) C fw_11_105 kd1 rfl (Nat.le_of_ble_eq_true rfl) rfl rfl dX11_feed_64 ?_
    obtain rfl := Option.some.inj hF
    exact at_iret C hr hlk (okq6 _ _) okq6 dX11_feed_67
  · have hF := (if_neg c1).symm.trans hF
    refine at_iconst C dX11_feed_16 ?_
    obtain rfl := Option.some.inj hF
    exact at_iret C hr hlk ⟨by decide, by decide⟩ ok dX11_feed_17
abbrev rm_X11_forgetNet : Room := { frames := 0, cells := 0, slots := 0, locals := 0 }
def F_X11_forgetNet (N : Nat)  (σ : Sto) : Option (Sto) :=
  some (upI (upI σ 0 16 0) 0 17 0)
set_option maxHeartbeats 4000000 in
set_option maxRecDepth 100000 in
theorem c_X11_forgetNet (l : Launch) (g : Geo) (N : Nat)  (σ : Sto) (res : Sto)  (ok : OK σ) (hF : F_X11_forgetNet N  σ = some res) : MtV l g yX11_forgetNet cX11_forgetNet 1 none rm_X11_forgetNet [vr g 0] σ res := by
  intro sz
  refine Met.ofAt (own := RX11) (QQ := fun z => QV g z res) (by decide +kernel) (Nat.le_of_ble_eq_true rfl) rfl ?_
  intro p e s m args below meth c C hr hlk
  show At p l e rm_X11_forgetNet s m args below meth c g 1 (MQ below (QV g s.heap.size res) args s 0 0 (AA g s.heap.size)) 0 [(0, vr g 0)] [] σ
  unfold F_X11_forgetNet at hF
  refine at_aload_n C 0 dX11_forgetNet_0 rfl rfl ?_
  refine at_iconst C dX11_forgetNet_1 ?_
  refine at_putz (jz := 16) C fu_11_98 kd0 rfl (Nat.le_of_ble_eq_true rfl) rfl (Or.inl rfl) rfl dX11_forgetNet_2 ?_
  refine at_aload_n C 0 dX11_forgetNet_5 rfl rfl ?_
  refine at_iconst C dX11_forgetNet_6 ?_
  refine at_putz (jz := 17) C fu_11_102 kd0 rfl (Nat.le_of_ble_eq_true rfl) rfl (Or.inl rfl) rfl dX11_forgetNet_7 ?_
  obtain rfl := Option.some.inj hF
  exact at_vret C hr hlk (OK_up (OK_up ok (isB.r (Or.inl rfl))) (isB.r (Or.inl rfl))) dX11_forgetNet_10
abbrev rm_X11_text : Room := { frames := 9, cells := 0, slots := 0, locals := 194 }
def F_X11_text (N : Nat) (v1 : Int) (σ : Sto) : Option (Int × Sto) :=
  if v1 < 0 then (some ((-2), σ)) else (if v1 ≤ (σ.1 1 1) then (asB (σ.1 0 2) (fun b3 => (F_X8_read N b3 v1 σ).bind (fun q4 => if q4.1 = 0 then (some ((-1), q4.2)) else (asB (q4.2.1 0 2) (fun b6 => asB (q4.2.1 0 1) (fun b7 => (F_X5_clear N 29 (upI (upI q4.2 0 2 (b7 : Int)) 0 1 (b6 : Int))).bind (fun q8 => (F_X2_clear N q8).bind (fun q9 => (F_X11_forgetNet N (upI q9 35 3 0)).bind (fun q10 => some ((q10.1 1 7), q10)))))))))) else (some ((-2), σ)))
set_option maxHeartbeats 4000000 in
set_option maxRecDepth 100000 in
theorem c_X11_text (l : Launch) (g : Geo) (N : Nat) (v1 : Int) (σ : Sto) (res : Int × Sto) (h1 : inR v1) (ok : OK σ) (hF : F_X11_text N v1 σ = some res) : MtI l g yX11_text cX11_text 4 (some .int) rm_X11_text [vr g 0, vi v1] σ res.1 res.2 inR := by
  intro sz
  refine Met.ofAt (own := RX11) (QQ := fun z => QI g z res.1 res.2 inR) (by decide +kernel) (Nat.le_of_ble_eq_true rfl) rfl ?_
  intro p e s m args below meth c C hr hlk
  show At p l e rm_X11_text s m args below meth c g 4 (MQ below (QI g s.heap.size res.1 res.2 inR) args s 0 0 (AA g s.heap.size)) 0 [(0, vr g 0), (1, vi v1)] [] σ
  unfold F_X11_text at hF
  refine at_iload_n C 1 dX11_text_0 rfl rfl ?_
  refine at_if_lt C h1 dX11_text_1 rfl (fun c1 => ?_) (fun c1 => ?_)
  · have hF := (if_pos c1).symm.trans hF
    refine at_bipush C dX11_text_15 (by decide) ?_
    obtain rfl := Option.some.inj hF
    exact at_iret C hr hlk ⟨by decide, by decide⟩ ok dX11_text_17
  · have hF := (if_neg c1).symm.trans hF
    refine at_iload_n C 1 dX11_text_4 rfl rfl ?_
    refine at_aload_n C 0 dX11_text_5 rfl rfl ?_
    refine at_getr (k' := 1) C 1 fw_11_10 kd0 rfl (Nat.le_of_ble_eq_true rfl) rfl rfl dX11_text_6 ?_
    refine at_geti (jz := 1) C fw_11_105 kd1 rfl (Nat.le_of_ble_eq_true rfl) rfl rfl dX11_text_9 ?_
    refine at_icmp_le C h1 (ok _ _) dX11_text_12 rfl (fun c2 => ?_) (fun c2 => ?_)
    · have hF := (if_pos c2).symm.trans hF
      refine at_aload_n C 0 dX11_text_18 rfl rfl ?_
      refine at_getr (k' := 1) C 1 fw_11_10 kd0 rfl (Nat.le_of_ble_eq_true rfl) rfl rfl dX11_text_19 ?_
      refine at_aload_n C 0 dX11_text_22 rfl rfl ?_
      obtain ⟨b3, eb3, kb3, hF⟩ := asB_some hF
      refine at_getd (jz := 2) (k2 := b3) C fw_11_23 kd0 rfl (Nat.le_of_ble_eq_true rfl) rfl rfl eb3 dX11_text_23 ?_
      refine at_iload_n C 1 dX11_text_26 rfl rfl ?_
      obtain ⟨q4, eq4, hF⟩ := bind_some' hF
      refine at_callV (ci := 8) C (c_X8_read l g N b3 v1 σ q4 kb3 h1 ok eq4) kv_X8_read w586 kd1 rfl rfl rfl rfl (Nat.le_of_ble_eq_true rfl) ⟨rfl, rfl, (Nat.le_of_ble_eq_true rfl), (Nat.le_of_ble_eq_true rfl)⟩ dX11_text_27 (fun tq4 okq4 => ?_)
      refine at_istore_n C dX11_text_30 rfl (Nat.le_of_ble_eq_true rfl) rfl ?_
      refine at_iload_n C 0 dX11_text_31 rfl rfl ?_
      refine at_if_ne C (isB.r tq4) dX11_text_32 rfl (fun c5 => ?_) (fun c5 => ?_)
      · have hF := (if_neg c5).symm.trans hF
        refine at_aload_n C 1 dX11_text_37 rfl rfl ?_
        obtain ⟨b6, eb6, kb6, hF⟩ := asB_some hF
        refine at_getd (jz := 2) (k2 := b6) C fw_11_23 kd0 rfl (Nat.le_of_ble_eq_true rfl) rfl rfl eb6 dX11_text_38 ?_
        refine at_astore_n C dX11_text_41 rfl (Nat.le_of_ble_eq_true rfl) rfl ?_
        refine at_aload_n C 2 dX11_text_42 rfl rfl ?_
        refine at_aload_n C 2 dX11_text_43 rfl rfl ?_
        obtain ⟨b7, eb7, kb7, hF⟩ := asB_some hF
        refine at_getd (jz := 1) (k2 := b7) C fw_11_19 kd0 rfl (Nat.le_of_ble_eq_true rfl) rfl rfl eb7 dX11_text_44 ?_
        refine at_putd (jz := 2) C fu_11_23 kd0 rfl (Nat.le_of_ble_eq_true rfl) rfl rfl dX11_text_47 ?_
        refine at_aload_n C 2 dX11_text_50 rfl rfl ?_
        refine at_aload_n C 0 dX11_text_51 rfl rfl ?_
        refine at_putd (jz := 1) C fu_11_19 kd0 rfl (Nat.le_of_ble_eq_true rfl) rfl rfl dX11_text_52 ?_
        refine at_aload_n C 2 dX11_text_55 rfl rfl ?_
        refine at_getr (k' := 29) C 29 fw_11_29 kd0 rfl (Nat.le_of_ble_eq_true rfl) rfl rfl dX11_text_56 ?_
        obtain ⟨q8, eq8, hF⟩ := bind_some' hF
        refine at_callVv (ci := 5) C (c_X5_clear l g N 29 (upI (upI q4.2 0 2 (b7 : Int)) 0 1 (b6 : Int)) q8 kd29 (OK_up (OK_up okq4 (kinR kb7)) (kinR kb6)) eq8) kv_X5_clear w676 kd29 rfl rfl rfl rfl (Nat.le_of_ble_eq_true rfl) ⟨rfl, rfl, (Nat.le_of_ble_eq_true rfl), (Nat.le_of_ble_eq_true rfl)⟩ dX11_text_59 (fun okq8 => ?_)
        refine at_aload_n C 2 dX11_text_62 rfl rfl ?_
        refine at_getr (k' := 33) C 33 fw_11_36 kd0 rfl (Nat.le_of_ble_eq_true rfl) rfl rfl dX11_text_63 ?_
        obtain ⟨q9, eq9, hF⟩ := bind_some' hF
        refine at_callVv (ci := 2) C (c_X2_clear l g N  q8 q9  okq8 eq9) kv_X2_clear w680 kd33 rfl rfl rfl rfl (Nat.le_of_ble_eq_true rfl) ⟨rfl, rfl, (Nat.le_of_ble_eq_true rfl), (Nat.le_of_ble_eq_true rfl)⟩ dX11_text_66 (fun okq9 => ?_)
        refine at_aload_n C 2 dX11_text_69 rfl rfl ?_
        refine at_getr (k' := 35) C 35 fw_11_43 kd0 rfl (Nat.le_of_ble_eq_true rfl) rfl rfl dX11_text_70 ?_
        refine at_iconst C dX11_text_73 ?_
        refine at_putz (jz := 3) C fu_11_121 kd35 rfl (Nat.le_of_ble_eq_true rfl) rfl (Or.inl rfl) rfl dX11_text_74 ?_
        refine at_aload_n C 2 dX11_text_77 rfl rfl ?_
        obtain ⟨q10, eq10, hF⟩ := bind_some' hF
        refine at_callVv (ci := 11) C (c_X11_forgetNet l g N  (upI q9 35 3 0) q10  (OK_up okq9 (isB.r (Or.inl rfl))) eq10) kv_X11_forgetNet w684 kd0 rfl rfl rfl rfl (Nat.le_of_ble_eq_true rfl) ⟨rfl, rfl, (Nat.le_of_ble_eq_true rfl), (Nat.le_of_ble_eq_true rfl)⟩ dX11_text_78 (fun okq10 => ?_)
        refine at_aload_n C 2 dX11_text_81 rfl rfl ?_
        refine at_getr (k' := 1) C 1 fw_11_10 kd0 rfl (Nat.le_of_ble_eq_true rfl) rfl rfl dX11_text_82 ?_
        refine at_geti (jz := 7) C fw_11_127 kd1 rfl (Nat.le_of_ble_eq_true rfl) rfl rfl dX11_text_85 ?_
        obtain rfl := Option.some.inj hF
        exact at_iret C hr hlk (okq10 _ _) okq10 dX11_text_88
      · have hF := (if_pos c5).symm.trans hF
        refine at_iconst C dX11_text_35 ?_
        obtain rfl := Option.some.inj hF
        exact at_iret C hr hlk ⟨by decide, by decide⟩ okq4 dX11_text_36
    · have hF := (if_neg c2).symm.trans hF
      refine at_bipush C dX11_text_15 (by decide) ?_
      obtain rfl := Option.some.inj hF
      exact at_iret C hr hlk ⟨by decide, by decide⟩ ok dX11_text_17
abbrev rm_X11_fault : Room := { frames := 0, cells := 0, slots := 0, locals := 0 }
def F_X11_fault (N : Nat) (v1 : Int) (σ : Sto) : Option (Int) :=
  if v1 = 0 then (some (σ.1 1 9)) else (if v1 = 1 then (some (σ.1 1 10)) else (some (-1)))
set_option maxHeartbeats 4000000 in
set_option maxRecDepth 100000 in
theorem c_X11_fault (l : Launch) (g : Geo) (N : Nat) (v1 : Int) (σ : Sto) (res : Int) (h1 : inR v1) (ok : OK σ) (hF : F_X11_fault N v1 σ = some res) : MtI l g yX11_fault cX11_fault 2 (some .int) rm_X11_fault [vr g 0, vi v1] σ res σ inR := by
  intro sz
  refine Met.ofAt (own := RX11) (QQ := fun z => QI g z res σ inR) (by decide +kernel) (Nat.le_of_ble_eq_true rfl) rfl ?_
  intro p e s m args below meth c C hr hlk
  show At p l e rm_X11_fault s m args below meth c g 2 (MQ below (QI g s.heap.size res σ inR) args s 0 0 (AA g s.heap.size)) 0 [(0, vr g 0), (1, vi v1)] [] σ
  unfold F_X11_fault at hF
  refine at_iload_n C 1 dX11_fault_0 rfl rfl ?_
  refine at_if_ne C h1 dX11_fault_1 rfl (fun c1 => ?_) (fun c1 => ?_)
  · have hF := (if_neg c1).symm.trans hF
    refine at_iload_n C 1 dX11_fault_12 rfl rfl ?_
    refine at_iconst C dX11_fault_13 ?_
    refine at_icmp_ne C h1 (isB.r (Or.inr rfl)) dX11_fault_14 rfl (fun c2 => ?_) (fun c2 => ?_)
    · have hF := (if_neg c2).symm.trans hF
      refine at_iconst C dX11_fault_27 ?_
      obtain rfl := Option.some.inj hF
      exact at_iret C hr hlk ⟨by decide, by decide⟩ ok dX11_fault_28
    · have hF := (if_pos c2).symm.trans hF
      refine at_aload_n C 0 dX11_fault_17 rfl rfl ?_
      refine at_getr (k' := 1) C 1 fw_11_10 kd0 rfl (Nat.le_of_ble_eq_true rfl) rfl rfl dX11_fault_18 ?_
      refine at_geti (jz := 10) C fw_11_133 kd1 rfl (Nat.le_of_ble_eq_true rfl) rfl rfl dX11_fault_21 ?_
      refine at_goto C dX11_fault_24 rfl ?_
      obtain rfl := Option.some.inj hF
      exact at_iret C hr hlk (ok _ _) ok dX11_fault_28
  · have hF := (if_pos c1).symm.trans hF
    refine at_aload_n C 0 dX11_fault_4 rfl rfl ?_
    refine at_getr (k' := 1) C 1 fw_11_10 kd0 rfl (Nat.le_of_ble_eq_true rfl) rfl rfl dX11_fault_5 ?_
    refine at_geti (jz := 9) C fw_11_130 kd1 rfl (Nat.le_of_ble_eq_true rfl) rfl rfl dX11_fault_8 ?_
    obtain rfl := Option.some.inj hF
    exact at_iret C hr hlk (ok _ _) ok dX11_fault_11
abbrev rm_X11_named : Room := { frames := 1, cells := 0, slots := 0, locals := 22 }
def F_X11_named (N : Nat) (v1 : Int) (σ : Sto) : Option (Int) :=
  asB (σ.1 0 1) (fun b1 => (F_X0_find N b1 v1 σ).bind (fun q2 => some q2))
set_option maxHeartbeats 4000000 in
set_option maxRecDepth 100000 in
theorem c_X11_named (l : Launch) (g : Geo) (N : Nat) (v1 : Int) (σ : Sto) (res : Int) (h1 : inR v1) (ok : OK σ) (hF : F_X11_named N v1 σ = some res) : MtI l g yX11_named cX11_named 2 (some .int) rm_X11_named [vr g 0, vi v1] σ res σ inR := by
  intro sz
  refine Met.ofAt (own := RX11) (QQ := fun z => QI g z res σ inR) (by decide +kernel) (Nat.le_of_ble_eq_true rfl) rfl ?_
  intro p e s m args below meth c C hr hlk
  show At p l e rm_X11_named s m args below meth c g 2 (MQ below (QI g s.heap.size res σ inR) args s 0 0 (AA g s.heap.size)) 0 [(0, vr g 0), (1, vi v1)] [] σ
  unfold F_X11_named at hF
  refine at_aload_n C 0 dX11_named_0 rfl rfl ?_
  obtain ⟨b1, eb1, kb1, hF⟩ := asB_some hF
  refine at_getd (jz := 1) (k2 := b1) C fw_11_19 kd0 rfl (Nat.le_of_ble_eq_true rfl) rfl rfl eb1 dX11_named_1 ?_
  refine at_iload_n C 1 dX11_named_4 rfl rfl ?_
  obtain ⟨q2, eq2, hF⟩ := bind_some' hF
  refine at_callV (ci := 0) C (c_X0_find l g N b1 v1 σ q2 kb1 h1 ok eq2) kv_X0_find w696 kb1 rfl rfl rfl rfl (Nat.le_of_ble_eq_true rfl) ⟨rfl, rfl, (Nat.le_of_ble_eq_true rfl), (Nat.le_of_ble_eq_true rfl)⟩ dX11_named_5 (fun tq2 okq2 => ?_)
  obtain rfl := Option.some.inj hF
  exact at_iret C hr hlk tq2 ok dX11_named_8
abbrev rm_X11_openOf : Room := { frames := 1, cells := 0, slots := 0, locals := 23 }
def F_X11_openOf (N : Nat) (v1 : Nat) (v2 : Int) (σ : Sto) : Option (Int) :=
  asB (σ.1 0 1) (fun b1 => inb v2 12 ((F_X5_takenOf N v1 v2 σ).bind (fun q3 => some (js (jabs (σ.1 (b1 + 7) v2)) q3))))
set_option maxHeartbeats 4000000 in
set_option maxRecDepth 100000 in
theorem c_X11_openOf (l : Launch) (g : Geo) (N : Nat) (v1 : Nat) (v2 : Int) (σ : Sto) (res : Int) (hk1 : knd v1 = (15, 4)) (h2 : inR v2) (ok : OK σ) (hF : F_X11_openOf N v1 v2 σ = some res) : MtI l g yX11_openOf cX11_openOf 3 (some .int) rm_X11_openOf [vr g 0, vr g v1, vi v2] σ res σ inR := by
  intro sz
  refine Met.ofAt (own := RX11) (QQ := fun z => QI g z res σ inR) (by decide +kernel) (Nat.le_of_ble_eq_true rfl) rfl ?_
  intro p e s m args below meth c C hr hlk
  show At p l e rm_X11_openOf s m args below meth c g 3 (MQ below (QI g s.heap.size res σ inR) args s 0 0 (AA g s.heap.size)) 0 [(0, vr g 0), (1, vr g v1), (2, vi v2)] [] σ
  unfold F_X11_openOf at hF
  refine at_aload_n C 0 dX11_openOf_0 rfl rfl ?_
  obtain ⟨b1, eb1, kb1, hF⟩ := asB_some hF
  refine at_getd (jz := 1) (k2 := b1) C fw_11_19 kd0 rfl (Nat.le_of_ble_eq_true rfl) rfl rfl eb1 dX11_openOf_1 ?_
  refine at_getr C 7 fw_11_178 kb1 rfl (Nat.le_of_ble_eq_true rfl) rfl rfl dX11_openOf_4 ?_
  refine at_iload_n C 2 dX11_openOf_7 rfl rfl ?_
  obtain ⟨b2, hF⟩ := inb_some hF
  refine at_iaload C (kf0_6 kb1) b2 dX11_openOf_8 ?_
  refine at_mabs C km_abs w710 (ok _ _) ⟨(Nat.le_of_ble_eq_true rfl), (Nat.le_of_ble_eq_true rfl)⟩ dX11_openOf_9 ?_
  refine at_aload_n C 1 dX11_openOf_12 rfl rfl ?_
  refine at_iload_n C 2 dX11_openOf_13 rfl rfl ?_
  obtain ⟨q3, eq3, hF⟩ := bind_some' hF
  refine at_callV (ci := 5) C (c_X5_takenOf l g N v1 v2 σ q3 hk1 h2 ok eq3) kv_X5_takenOf w713 hk1 rfl rfl rfl rfl (Nat.le_of_ble_eq_true rfl) ⟨rfl, rfl, (Nat.le_of_ble_eq_true rfl), (Nat.le_of_ble_eq_true rfl)⟩ dX11_openOf_14 (fun tq3 okq3 => ?_)
  refine at_isub C dX11_openOf_17 ?_
  obtain rfl := Option.some.inj hF
  exact at_iret C hr hlk (js_R _ _) ok dX11_openOf_18
abbrev rm_X11_period : Room := { frames := 2, cells := 0, slots := 0, locals := 45 }
def F_X11_period (N : Nat) (v1 : Int) (v2 : Int) (σ : Sto) : Option (Int) :=
  asB (σ.1 0 1) (fun b1 => (F_X0_hasPeriod N b1 v1 σ).bind (fun q2 => if q2 = 0 then (some (-999999)) else (if v2 = 0 then (asB (σ.1 0 1) (fun b5 => inb v1 12 (some (σ.1 (b5 + 4) v1)))) else (if v2 = 1 then (asB (σ.1 0 1) (fun b8 => inb v1 12 (some (σ.1 (b8 + 5) v1)))) else (if v2 = 2 then (asB (σ.1 0 1) (fun b11 => inb v1 12 (some (σ.1 (b11 + 6) v1)))) else (if v2 = 3 then (asB (σ.1 0 1) (fun b14 => inb v1 12 (some (σ.1 (b14 + 7) v1)))) else (if v2 = 4 then ((F_X11_openOf N 29 v1 σ).bind (fun q17 => some q17)) else (if v2 = 5 then ((F_X5_takenOf N 29 v1 σ).bind (fun q19 => some q19)) else (some (-999999))))))))))
set_option maxHeartbeats 4000000 in
set_option maxRecDepth 100000 in
theorem c_X11_period (l : Launch) (g : Geo) (N : Nat) (v1 : Int) (v2 : Int) (σ : Sto) (res : Int) (h1 : inR v1) (h2 : inR v2) (ok : OK σ) (hF : F_X11_period N v1 v2 σ = some res) : MtI l g yX11_period cX11_period 3 (some .int) rm_X11_period [vr g 0, vi v1, vi v2] σ res σ inR := by
  intro sz
  refine Met.ofAt (own := RX11) (QQ := fun z => QI g z res σ inR) (by decide +kernel) (Nat.le_of_ble_eq_true rfl) rfl ?_
  intro p e s m args below meth c C hr hlk
  show At p l e rm_X11_period s m args below meth c g 3 (MQ below (QI g s.heap.size res σ inR) args s 0 0 (AA g s.heap.size)) 0 [(0, vr g 0), (1, vi v1), (2, vi v2)] [] σ
  unfold F_X11_period at hF
  refine at_aload_n C 0 dX11_period_0 rfl rfl ?_
  obtain ⟨b1, eb1, kb1, hF⟩ := asB_some hF
  refine at_getd (jz := 1) (k2 := b1) C fw_11_19 kd0 rfl (Nat.le_of_ble_eq_true rfl) rfl rfl eb1 dX11_period_1 ?_
  refine at_iload_n C 1 dX11_period_4 rfl rfl ?_
  obtain ⟨q2, eq2, hF⟩ := bind_some' hF
  refine at_callV (ci := 0) C (c_X0_hasPeriod l g N b1 v1 σ q2 kb1 h1 ok eq2) kv_X0_hasPeriod w701 kb1 rfl rfl rfl rfl (Nat.le_of_ble_eq_true rfl) ⟨rfl, rfl, (Nat.le_of_ble_eq_true rfl), (Nat.le_of_ble_eq_true rfl)⟩ dX11_period_5 (fun tq2 okq2 => ?_)
  refine at_if_ne C (isB.r tq2) dX11_period_8 rfl (fun c3 => ?_) (fun c3 => ?_)
  · have hF := (if_neg c3).symm.trans hF
    refine at_iload_n C 2 dX11_period_14 rfl rfl ?_
    by_cases c4 : v2 = 0
    · have hF := (if_pos c4).symm.trans hF
      refine at_tin (off := 37) (tgt := 52) C dX11_period_15 h2 (by rw [c4]; decide) (by rw [c4]; decide) (by rw [c4]; rfl) rfl ?_
      refine at_aload_n C 0 dX11_period_52 rfl rfl ?_
      obtain ⟨b5, eb5, kb5, hF⟩ := asB_some hF
      refine at_getd (jz := 1) (k2 := b5) C fw_11_19 kd0 rfl (Nat.le_of_ble_eq_true rfl) rfl rfl eb5 dX11_period_53 ?_
      refine at_getr C 4 fw_11_169 kb5 rfl (Nat.le_of_ble_eq_true rfl) rfl rfl dX11_period_56 ?_
      refine at_iload_n C 1 dX11_period_59 rfl rfl ?_
      obtain ⟨b6, hF⟩ := inb_some hF
      refine at_iaload C (kf0_3 kb5) b6 dX11_period_60 ?_
      obtain rfl := Option.some.inj hF
      exact at_iret C hr hlk (ok _ _) ok dX11_period_61
    · have hF := (if_neg c4).symm.trans hF
      by_cases c7 : v2 = 1
      · have hF := (if_pos c7).symm.trans hF
        refine at_tin (off := 47) (tgt := 62) C dX11_period_15 h2 (by rw [c7]; decide) (by rw [c7]; decide) (by rw [c7]; rfl) rfl ?_
        refine at_aload_n C 0 dX11_period_62 rfl rfl ?_
        obtain ⟨b8, eb8, kb8, hF⟩ := asB_some hF
        refine at_getd (jz := 1) (k2 := b8) C fw_11_19 kd0 rfl (Nat.le_of_ble_eq_true rfl) rfl rfl eb8 dX11_period_63 ?_
        refine at_getr C 5 fw_11_172 kb8 rfl (Nat.le_of_ble_eq_true rfl) rfl rfl dX11_period_66 ?_
        refine at_iload_n C 1 dX11_period_69 rfl rfl ?_
        obtain ⟨b9, hF⟩ := inb_some hF
        refine at_iaload C (kf0_4 kb8) b9 dX11_period_70 ?_
        obtain rfl := Option.some.inj hF
        exact at_iret C hr hlk (ok _ _) ok dX11_period_71
      · have hF := (if_neg c7).symm.trans hF
        by_cases c10 : v2 = 2
        · have hF := (if_pos c10).symm.trans hF
          refine at_tin (off := 57) (tgt := 72) C dX11_period_15 h2 (by rw [c10]; decide) (by rw [c10]; decide) (by rw [c10]; rfl) rfl ?_
          refine at_aload_n C 0 dX11_period_72 rfl rfl ?_
          obtain ⟨b11, eb11, kb11, hF⟩ := asB_some hF
          refine at_getd (jz := 1) (k2 := b11) C fw_11_19 kd0 rfl (Nat.le_of_ble_eq_true rfl) rfl rfl eb11 dX11_period_73 ?_
          refine at_getr C 6 fw_11_175 kb11 rfl (Nat.le_of_ble_eq_true rfl) rfl rfl dX11_period_76 ?_
          refine at_iload_n C 1 dX11_period_79 rfl rfl ?_
          obtain ⟨b12, hF⟩ := inb_some hF
          refine at_iaload C (kf0_5 kb11) b12 dX11_period_80 ?_
          obtain rfl := Option.some.inj hF
          exact at_iret C hr hlk (ok _ _) ok dX11_period_81
        · have hF := (if_neg c10).symm.trans hF
          by_cases c13 : v2 = 3
          · have hF := (if_pos c13).symm.trans hF
            refine at_tin (off := 67) (tgt := 82) C dX11_period_15 h2 (by rw [c13]; decide) (by rw [c13]; decide) (by rw [c13]; rfl) rfl ?_
            refine at_aload_n C 0 dX11_period_82 rfl rfl ?_
            obtain ⟨b14, eb14, kb14, hF⟩ := asB_some hF
            refine at_getd (jz := 1) (k2 := b14) C fw_11_19 kd0 rfl (Nat.le_of_ble_eq_true rfl) rfl rfl eb14 dX11_period_83 ?_
            refine at_getr C 7 fw_11_178 kb14 rfl (Nat.le_of_ble_eq_true rfl) rfl rfl dX11_period_86 ?_
            refine at_iload_n C 1 dX11_period_89 rfl rfl ?_
            obtain ⟨b15, hF⟩ := inb_some hF
            refine at_iaload C (kf0_6 kb14) b15 dX11_period_90 ?_
            obtain rfl := Option.some.inj hF
            exact at_iret C hr hlk (ok _ _) ok dX11_period_91
          · have hF := (if_neg c13).symm.trans hF
            by_cases c16 : v2 = 4
            · have hF := (if_pos c16).symm.trans hF
              refine at_tin (off := 77) (tgt := 92) C dX11_period_15 h2 (by rw [c16]; decide) (by rw [c16]; decide) (by rw [c16]; rfl) rfl ?_
              refine at_aload_n C 0 dX11_period_92 rfl rfl ?_
              refine at_aload_n C 0 dX11_period_93 rfl rfl ?_
              refine at_getr (k' := 29) C 29 fw_11_29 kd0 rfl (Nat.le_of_ble_eq_true rfl) rfl rfl dX11_period_94 ?_
              refine at_iload_n C 1 dX11_period_97 rfl rfl ?_
              obtain ⟨q17, eq17, hF⟩ := bind_some' hF
              refine at_callV (ci := 11) C (c_X11_openOf l g N 29 v1 σ q17 kd29 h1 ok eq17) kv_X11_openOf w706 kd0 rfl rfl rfl rfl (Nat.le_of_ble_eq_true rfl) ⟨rfl, rfl, (Nat.le_of_ble_eq_true rfl), (Nat.le_of_ble_eq_true rfl)⟩ dX11_period_98 (fun tq17 okq17 => ?_)
              obtain rfl := Option.some.inj hF
              exact at_iret C hr hlk tq17 ok dX11_period_101
            · have hF := (if_neg c16).symm.trans hF
              by_cases c18 : v2 = 5
              · have hF := (if_pos c18).symm.trans hF
                refine at_tin (off := 87) (tgt := 102) C dX11_period_15 h2 (by rw [c18]; decide) (by rw [c18]; decide) (by rw [c18]; rfl) rfl ?_
                refine at_aload_n C 0 dX11_period_102 rfl rfl ?_
                refine at_getr (k' := 29) C 29 fw_11_29 kd0 rfl (Nat.le_of_ble_eq_true rfl) rfl rfl dX11_period_103 ?_
                refine at_iload_n C 1 dX11_period_106 rfl rfl ?_
                obtain ⟨q19, eq19, hF⟩ := bind_some' hF
                refine at_callV (ci := 5) C (c_X5_takenOf l g N 29 v1 σ q19 kd29 h1 ok eq19) kv_X5_takenOf w713 kd29 rfl rfl rfl rfl (Nat.le_of_ble_eq_true rfl) ⟨rfl, rfl, (Nat.le_of_ble_eq_true rfl), (Nat.le_of_ble_eq_true rfl)⟩ dX11_period_107 (fun tq19 okq19 => ?_)
                obtain rfl := Option.some.inj hF
                exact at_iret C hr hlk tq19 ok dX11_period_110
              · have hF := (if_neg c18).symm.trans hF
                refine at_tout (tgt := 111) C h2 dX11_period_15 (by omega) rfl ?_
                refine at_ldc (n := (-999999)) C dX11_period_111 w705 ?_
                obtain rfl := Option.some.inj hF
                exact at_iret C hr hlk ⟨by decide, by decide⟩ ok dX11_period_113
  · have hF := (if_pos c3).symm.trans hF
    refine at_ldc (n := (-999999)) C dX11_period_11 w705 ?_
    obtain rfl := Option.some.inj hF
    exact at_iret C hr hlk ⟨by decide, by decide⟩ ok dX11_period_13
abbrev rm_X11_areMembers : Room := { frames := 1, cells := 0, slots := 0, locals := 21 }
def F_X11_areMembers_J26 (N : Nat)   (σ : Sto) : Option (Int) :=
  some 0
def F_X11_areMembers (N : Nat) (v1 : Int) (v2 : Int) (σ : Sto) : Option (Int) :=
  asB (σ.1 0 1) (fun b1 => (F_X0_hasMember N b1 v1 σ).bind (fun q2 => if q2 = 0 then (F_X11_areMembers_J26 N   σ) else (asB (σ.1 0 1) (fun b4 => (F_X0_hasMember N b4 v2 σ).bind (fun q5 => if q5 = 0 then (F_X11_areMembers_J26 N   σ) else (some 1))))))
set_option maxHeartbeats 4000000 in
set_option maxRecDepth 100000 in
theorem c_X11_areMembers (l : Launch) (g : Geo) (N : Nat) (v1 : Int) (v2 : Int) (σ : Sto) (res : Int) (h1 : inR v1) (h2 : inR v2) (ok : OK σ) (hF : F_X11_areMembers N v1 v2 σ = some res) : MtI l g yX11_areMembers cX11_areMembers 3 (some .boolean) rm_X11_areMembers [vr g 0, vi v1, vi v2] σ res σ isB := by
  intro sz
  refine Met.ofAt (own := RX11) (QQ := fun z => QI g z res σ isB) (by decide +kernel) (Nat.le_of_ble_eq_true rfl) rfl ?_
  intro p e s m args below meth c C hr hlk
  show At p l e rm_X11_areMembers s m args below meth c g 3 (MQ below (QI g s.heap.size res σ isB) args s 0 0 (AA g s.heap.size)) 0 [(0, vr g 0), (1, vi v1), (2, vi v2)] [] σ
  unfold F_X11_areMembers at hF
  have J26 : F_X11_areMembers_J26 N   σ = some res → At p l e rm_X11_areMembers s m args below meth c g 3 (MQ below (QI g s.heap.size res σ isB) args s 0 0 (AA g s.heap.size)) 26 [] [] σ := by
    intro   hF
    unfold F_X11_areMembers_J26 at hF
    refine at_iconst C dX11_areMembers_26 ?_
    obtain rfl := Option.some.inj hF
    exact at_zret C hr hlk (Or.inl rfl) ok dX11_areMembers_27
  refine at_aload_n C 0 dX11_areMembers_0 rfl rfl ?_
  obtain ⟨b1, eb1, kb1, hF⟩ := asB_some hF
  refine at_getd (jz := 1) (k2 := b1) C fw_11_19 kd0 rfl (Nat.le_of_ble_eq_true rfl) rfl rfl eb1 dX11_areMembers_1 ?_
  refine at_iload_n C 1 dX11_areMembers_4 rfl rfl ?_
  obtain ⟨q2, eq2, hF⟩ := bind_some' hF
  refine at_callV (ci := 0) C (c_X0_hasMember l g N b1 v1 σ q2 kb1 h1 ok eq2) kv_X0_hasMember w729 kb1 rfl rfl rfl rfl (Nat.le_of_ble_eq_true rfl) ⟨rfl, rfl, (Nat.le_of_ble_eq_true rfl), (Nat.le_of_ble_eq_true rfl)⟩ dX11_areMembers_5 (fun tq2 okq2 => ?_)
  refine at_if_eq C (isB.r tq2) dX11_areMembers_8 rfl (fun c3 => ?_) (fun c3 => ?_)
  · have hF := (if_pos c3).symm.trans hF
    refine at_sub [] rfl ?_
    exact J26  hF
  · have hF := (if_neg c3).symm.trans hF
    refine at_aload_n C 0 dX11_areMembers_11 rfl rfl ?_
    obtain ⟨b4, eb4, kb4, hF⟩ := asB_some hF
    refine at_getd (jz := 1) (k2 := b4) C fw_11_19 kd0 rfl (Nat.le_of_ble_eq_true rfl) rfl rfl eb4 dX11_areMembers_12 ?_
    refine at_iload_n C 2 dX11_areMembers_15 rfl rfl ?_
    obtain ⟨q5, eq5, hF⟩ := bind_some' hF
    refine at_callV (ci := 0) C (c_X0_hasMember l g N b4 v2 σ q5 kb4 h2 ok eq5) kv_X0_hasMember w729 kb4 rfl rfl rfl rfl (Nat.le_of_ble_eq_true rfl) ⟨rfl, rfl, (Nat.le_of_ble_eq_true rfl), (Nat.le_of_ble_eq_true rfl)⟩ dX11_areMembers_16 (fun tq5 okq5 => ?_)
    refine at_if_eq C (isB.r tq5) dX11_areMembers_19 rfl (fun c6 => ?_) (fun c6 => ?_)
    · have hF := (if_pos c6).symm.trans hF
      refine at_sub [] rfl ?_
      exact J26  hF
    · have hF := (if_neg c6).symm.trans hF
      refine at_iconst C dX11_areMembers_22 ?_
      refine at_goto C dX11_areMembers_23 rfl ?_
      obtain rfl := Option.some.inj hF
      exact at_zret C hr hlk (Or.inr rfl) ok dX11_areMembers_27
abbrev rm_X11_isPair : Room := { frames := 2, cells := 0, slots := 0, locals := 43 }
def F_X11_isPair_J18 (N : Nat)   (σ : Sto) : Option (Int) :=
  some 0
def F_X11_isPair (N : Nat) (v1 : Int) (v2 : Int) (σ : Sto) : Option (Int) :=
  if v1 = v2 then (F_X11_isPair_J18 N   σ) else ((F_X11_areMembers N v1 v2 σ).bind (fun q2 => if q2 = 0 then (F_X11_isPair_J18 N   σ) else (some 1)))
set_option maxHeartbeats 4000000 in
set_option maxRecDepth 100000 in
theorem c_X11_isPair (l : Launch) (g : Geo) (N : Nat) (v1 : Int) (v2 : Int) (σ : Sto) (res : Int) (h1 : inR v1) (h2 : inR v2) (ok : OK σ) (hF : F_X11_isPair N v1 v2 σ = some res) : MtI l g yX11_isPair cX11_isPair 3 (some .boolean) rm_X11_isPair [vr g 0, vi v1, vi v2] σ res σ isB := by
  intro sz
  refine Met.ofAt (own := RX11) (QQ := fun z => QI g z res σ isB) (by decide +kernel) (Nat.le_of_ble_eq_true rfl) rfl ?_
  intro p e s m args below meth c C hr hlk
  show At p l e rm_X11_isPair s m args below meth c g 3 (MQ below (QI g s.heap.size res σ isB) args s 0 0 (AA g s.heap.size)) 0 [(0, vr g 0), (1, vi v1), (2, vi v2)] [] σ
  unfold F_X11_isPair at hF
  have J18 : F_X11_isPair_J18 N   σ = some res → At p l e rm_X11_isPair s m args below meth c g 3 (MQ below (QI g s.heap.size res σ isB) args s 0 0 (AA g s.heap.size)) 18 [] [] σ := by
    intro   hF
    unfold F_X11_isPair_J18 at hF
    refine at_iconst C dX11_isPair_18 ?_
    obtain rfl := Option.some.inj hF
    exact at_zret C hr hlk (Or.inl rfl) ok dX11_isPair_19
  refine at_iload_n C 1 dX11_isPair_0 rfl rfl ?_
  refine at_iload_n C 2 dX11_isPair_1 rfl rfl ?_
  refine at_icmp_eq C h1 h2 dX11_isPair_2 rfl (fun c1 => ?_) (fun c1 => ?_)
  · have hF := (if_pos c1).symm.trans hF
    refine at_sub [] rfl ?_
    exact J18  hF
  · have hF := (if_neg c1).symm.trans hF
    refine at_aload_n C 0 dX11_isPair_5 rfl rfl ?_
    refine at_iload_n C 1 dX11_isPair_6 rfl rfl ?_
    refine at_iload_n C 2 dX11_isPair_7 rfl rfl ?_
    obtain ⟨q2, eq2, hF⟩ := bind_some' hF
    refine at_callV (ci := 11) C (c_X11_areMembers l g N v1 v2 σ q2 h1 h2 ok eq2) kv_X11_areMembers w725 kd0 rfl rfl rfl rfl (Nat.le_of_ble_eq_true rfl) ⟨rfl, rfl, (Nat.le_of_ble_eq_true rfl), (Nat.le_of_ble_eq_true rfl)⟩ dX11_isPair_8 (fun tq2 okq2 => ?_)
    refine at_if_eq C (isB.r tq2) dX11_isPair_11 rfl (fun c3 => ?_) (fun c3 => ?_)
    · have hF := (if_pos c3).symm.trans hF
      refine at_sub [] rfl ?_
      exact J18  hF
    · have hF := (if_neg c3).symm.trans hF
      refine at_iconst C dX11_isPair_14 ?_
      refine at_goto C dX11_isPair_15 rfl ?_
      obtain rfl := Option.some.inj hF
      exact at_zret C hr hlk (Or.inr rfl) ok dX11_isPair_19
abbrev rm_X11_isDay : Room := { frames := 0, cells := 0, slots := 0, locals := 0 }
def F_X11_isDay_J15 (N : Nat)   (σ : Sto) : Option (Int) :=
  some 0
def F_X11_isDay (N : Nat) (v0 : Int) (σ : Sto) : Option (Int) :=
  if v0 < 0 then (F_X11_isDay_J15 N   σ) else (if 999 < v0 then (F_X11_isDay_J15 N   σ) else (some 1))
set_option maxHeartbeats 4000000 in
set_option maxRecDepth 100000 in
theorem c_X11_isDay (l : Launch) (g : Geo) (N : Nat) (v0 : Int) (σ : Sto) (res : Int) (h0 : inR v0) (ok : OK σ) (hF : F_X11_isDay N v0 σ = some res) : MtI l g yX11_isDay cX11_isDay 1 (some .boolean) rm_X11_isDay [vi v0] σ res σ isB := by
  intro sz
  refine Met.ofAt (own := RX11) (QQ := fun z => QI g z res σ isB) (by decide +kernel) (Nat.le_of_ble_eq_true rfl) rfl ?_
  intro p e s m args below meth c C hr hlk
  show At p l e rm_X11_isDay s m args below meth c g 1 (MQ below (QI g s.heap.size res σ isB) args s 0 0 (AA g s.heap.size)) 0 [(0, vi v0)] [] σ
  unfold F_X11_isDay at hF
  have J15 : F_X11_isDay_J15 N   σ = some res → At p l e rm_X11_isDay s m args below meth c g 1 (MQ below (QI g s.heap.size res σ isB) args s 0 0 (AA g s.heap.size)) 15 [] [] σ := by
    intro   hF
    unfold F_X11_isDay_J15 at hF
    refine at_iconst C dX11_isDay_15 ?_
    obtain rfl := Option.some.inj hF
    exact at_zret C hr hlk (Or.inl rfl) ok dX11_isDay_16
  refine at_iload_n C 0 dX11_isDay_0 rfl rfl ?_
  refine at_if_lt C h0 dX11_isDay_1 rfl (fun c1 => ?_) (fun c1 => ?_)
  · have hF := (if_pos c1).symm.trans hF
    refine at_sub [] rfl ?_
    exact J15  hF
  · have hF := (if_neg c1).symm.trans hF
    refine at_iload_n C 0 dX11_isDay_4 rfl rfl ?_
    refine at_sipush C dX11_isDay_5 (by decide) ?_
    refine at_icmp_gt C h0 ⟨by decide, by decide⟩ dX11_isDay_8 rfl (fun c2 => ?_) (fun c2 => ?_)
    · have hF := (if_pos c2).symm.trans hF
      refine at_sub [] rfl ?_
      exact J15  hF
    · have hF := (if_neg c2).symm.trans hF
      refine at_iconst C dX11_isDay_11 ?_
      refine at_goto C dX11_isDay_12 rfl ?_
      obtain rfl := Option.some.inj hF
      exact at_zret C hr hlk (Or.inr rfl) ok dX11_isDay_16
abbrev rm_X11_percent : Room := { frames := 3, cells := 0, slots := 0, locals := 65 }
def F_X11_percent (N : Nat) (v1 : Int) (v2 : Int) (v3 : Int) (σ : Sto) : Option (Int × Sto) :=
  (F_X11_isPair N v1 v2 σ).bind (fun q1 => if q1 = 0 then (some ((-1), σ)) else ((F_X11_isDay N v3 σ).bind (fun q3 => if q3 = 0 then (some ((-1), σ)) else (asB (σ.1 0 1) (fun b5 => (F_X10_load N b5 v3 σ).bind (fun q6 => inb (ja (jm v1 8) v2) 64 (some ((q6.1 47 (ja (jm v1 8) v2)), q6))))))))
set_option maxHeartbeats 4000000 in
set_option maxRecDepth 100000 in
theorem c_X11_percent (l : Launch) (g : Geo) (N : Nat) (v1 : Int) (v2 : Int) (v3 : Int) (σ : Sto) (res : Int × Sto) (h1 : inR v1) (h2 : inR v2) (h3 : inR v3) (ok : OK σ) (hF : F_X11_percent N v1 v2 v3 σ = some res) : MtI l g yX11_percent cX11_percent 4 (some .int) rm_X11_percent [vr g 0, vi v1, vi v2, vi v3] σ res.1 res.2 inR := by
  intro sz
  refine Met.ofAt (own := RX11) (QQ := fun z => QI g z res.1 res.2 inR) (by decide +kernel) (Nat.le_of_ble_eq_true rfl) rfl ?_
  intro p e s m args below meth c C hr hlk
  show At p l e rm_X11_percent s m args below meth c g 4 (MQ below (QI g s.heap.size res.1 res.2 inR) args s 0 0 (AA g s.heap.size)) 0 [(0, vr g 0), (1, vi v1), (2, vi v2), (3, vi v3)] [] σ
  unfold F_X11_percent at hF
  refine at_aload_n C 0 dX11_percent_0 rfl rfl ?_
  refine at_iload_n C 1 dX11_percent_1 rfl rfl ?_
  refine at_iload_n C 2 dX11_percent_2 rfl rfl ?_
  obtain ⟨q1, eq1, hF⟩ := bind_some' hF
  refine at_callV (ci := 11) C (c_X11_isPair l g N v1 v2 σ q1 h1 h2 ok eq1) kv_X11_isPair w721 kd0 rfl rfl rfl rfl (Nat.le_of_ble_eq_true rfl) ⟨rfl, rfl, (Nat.le_of_ble_eq_true rfl), (Nat.le_of_ble_eq_true rfl)⟩ dX11_percent_3 (fun tq1 okq1 => ?_)
  refine at_if_eq C (isB.r tq1) dX11_percent_6 rfl (fun c2 => ?_) (fun c2 => ?_)
  · have hF := (if_pos c2).symm.trans hF
    refine at_iconst C dX11_percent_16 ?_
    obtain rfl := Option.some.inj hF
    exact at_iret C hr hlk ⟨by decide, by decide⟩ ok dX11_percent_17
  · have hF := (if_neg c2).symm.trans hF
    refine at_iload_n C 3 dX11_percent_9 rfl rfl ?_
    obtain ⟨q3, eq3, hF⟩ := bind_some' hF
    refine at_callS C (c_X11_isDay l g N v3 σ q3 h3 ok eq3) ks_X11_isDay w733 rfl rfl (Nat.le_of_ble_eq_true rfl) ⟨rfl, rfl, (Nat.le_of_ble_eq_true rfl), (Nat.le_of_ble_eq_true rfl)⟩ dX11_percent_10 (fun tq3 okq3 => ?_)
    refine at_if_ne C (isB.r tq3) dX11_percent_13 rfl (fun c4 => ?_) (fun c4 => ?_)
    · have hF := (if_neg c4).symm.trans hF
      refine at_aload_n C 0 dX11_percent_18 rfl rfl ?_
      refine at_getr (k' := 46) C 46 fw_11_50 kd0 rfl (Nat.le_of_ble_eq_true rfl) rfl rfl dX11_percent_19 ?_
      refine at_aload_n C 0 dX11_percent_22 rfl rfl ?_
      obtain ⟨b5, eb5, kb5, hF⟩ := asB_some hF
      refine at_getd (jz := 1) (k2 := b5) C fw_11_19 kd0 rfl (Nat.le_of_ble_eq_true rfl) rfl rfl eb5 dX11_percent_23 ?_
      refine at_iload_n C 3 dX11_percent_26 rfl rfl ?_
      obtain ⟨q6, eq6, hF⟩ := bind_some' hF
      refine at_callVv (ci := 10) C (c_X10_load l g N b5 v3 σ q6 kb5 h3 ok eq6) kv_X10_load w736 kd46 rfl rfl rfl rfl (Nat.le_of_ble_eq_true rfl) ⟨rfl, rfl, (Nat.le_of_ble_eq_true rfl), (Nat.le_of_ble_eq_true rfl)⟩ dX11_percent_27 (fun okq6 => ?_)
      refine at_aload_n C 0 dX11_percent_30 rfl rfl ?_
      refine at_getr (k' := 46) C 46 fw_11_50 kd0 rfl (Nat.le_of_ble_eq_true rfl) rfl rfl dX11_percent_31 ?_
      refine at_getr (k' := 47) C 1 fw_11_199 kd46 rfl (Nat.le_of_ble_eq_true rfl) rfl rfl dX11_percent_34 ?_
      refine at_iload_n C 1 dX11_percent_37 rfl rfl ?_
      refine at_bipush C dX11_percent_38 (by decide) ?_
      refine at_imul C dX11_percent_40 ?_
      refine at_iload_n C 2 dX11_percent_41 rfl rfl ?_
      refine at_iadd C dX11_percent_42 ?_
      obtain ⟨b7, hF⟩ := inb_some hF
      refine at_iaload C kd47 b7 dX11_percent_43 ?_
      obtain rfl := Option.some.inj hF
      exact at_iret C hr hlk (okq6 _ _) okq6 dX11_percent_44
    · have hF := (if_pos c4).symm.trans hF
      refine at_iconst C dX11_percent_16 ?_
      obtain rfl := Option.some.inj hF
      exact at_iret C hr hlk ⟨by decide, by decide⟩ ok dX11_percent_17
abbrev rm_X11_bitsOf : Room := { frames := 0, cells := 0, slots := 0, locals := 0 }
def F_X11_bitsOf_J67 (N : Nat)  (v1 : UInt32) (v2 : Int) (σ : Sto) : Option (Int) :=
  grd (vf_n32 (FP.fsub v1 FP.fconst1)) (Classical.propDecidable _) (grd (vf_n32 (FP.fmul (FP.fsub v1 FP.fconst1) 1258291200)) (Classical.propDecidable _) (some (jor (jshl v2 23) (jf2i (FP.fmul (FP.fsub v1 FP.fconst1) 1258291200)))))
def F_X11_bitsOf_B42 (N : Nat) (nx42 : (UInt32 × Int × Int) → Option (Int))  (v1 : UInt32) (v2 : Int) (v3 : Int) (σ : Sto) : Option (Int) :=
  if 126 ≤ v3 then (F_X11_bitsOf_J67 N  v1 v2 σ) else (if 0 ≤ (jfcmp v1 FP.fconst1 .g) then (F_X11_bitsOf_J67 N  v1 v2 σ) else (grd (vf_n32 (FP.fmul v1 FP.fconst2)) (Classical.propDecidable _) (nx42 ((FP.fmul v1 FP.fconst2), (ja v2 (-1)), (ja v3 1)))))
def F_X11_bitsOf_J40 (N : Nat)  (v1 : UInt32) (v2 : Int) (σ : Sto) : Option (Int) :=
  loopK (fun q nx42 => F_X11_bitsOf_B42 N  nx42  q.1 q.2.1 q.2.2 σ) N (v1, v2, 0)
def F_X11_bitsOf_B15 (N : Nat) (nx15 : (UInt32 × Int × Int) → Option (Int))  (v1 : UInt32) (v2 : Int) (v3 : Int) (σ : Sto) : Option (Int) :=
  if 127 ≤ v3 then (F_X11_bitsOf_J40 N  v1 v2 σ) else (if (jfcmp v1 FP.fconst2 .l) < 0 then (F_X11_bitsOf_J40 N  v1 v2 σ) else (grd (vf_n32 (FP.fdiv v1 FP.fconst2)) (Classical.propDecidable _) (nx15 ((FP.fdiv v1 FP.fconst2), (ja v2 1), (ja v3 1)))))
def F_X11_bitsOf (N : Nat) (v0 : UInt32) (σ : Sto) : Option (Int) :=
  if 0 < (jfcmp v0 FP.fconst0 .l) then (loopK (fun q nx15 => F_X11_bitsOf_B15 N  nx15  q.1 q.2.1 q.2.2 σ) N (v0, 127, 0)) else (some 0)
set_option maxHeartbeats 4000000 in
set_option maxRecDepth 100000 in
theorem c_X11_bitsOf (l : Launch) (g : Geo) (N : Nat) (v0 : UInt32) (σ : Sto) (res : Int)  (ok : OK σ) (hF : F_X11_bitsOf N v0 σ = some res) : MtI l g yX11_bitsOf cX11_bitsOf 4 (some .int) rm_X11_bitsOf [.float v0] σ res σ inR := by
  intro sz
  refine Met.ofAt (own := RX11) (QQ := fun z => QI g z res σ inR) (by decide +kernel) (Nat.le_of_ble_eq_true rfl) rfl ?_
  intro p e s m args below meth c C hr hlk
  show At p l e rm_X11_bitsOf s m args below meth c g 4 (MQ below (QI g s.heap.size res σ inR) args s 0 0 (AA g s.heap.size)) 0 [(0, .float v0)] [] σ
  unfold F_X11_bitsOf at hF
  refine at_fload_n C 0 dX11_bitsOf_0 rfl rfl ?_
  refine at_fconst0 C dX11_bitsOf_1 ?_
  refine at_fcmp C dX11_bitsOf_2 ?_
  refine at_if_gt C (jfcmp_R _ _ _) dX11_bitsOf_3 rfl (fun c1 => ?_) (fun c1 => ?_)
  · have hF := (if_pos c1).symm.trans hF
    refine at_fload_n C 0 dX11_bitsOf_8 rfl rfl ?_
    refine at_fstore_n C dX11_bitsOf_9 rfl (Nat.le_of_ble_eq_true rfl) rfl ?_
    refine at_bipush C dX11_bitsOf_10 (by decide) ?_
    refine at_istore_n C dX11_bitsOf_12 rfl (Nat.le_of_ble_eq_true rfl) rfl ?_
    refine at_iconst C dX11_bitsOf_13 ?_
    refine at_istore_n C dX11_bitsOf_14 rfl (Nat.le_of_ble_eq_true rfl) rfl ?_
    refine at_sub [2, 1, 0] rfl ?_
    refine loopK_ind (res := res) (P := fun (q : UInt32 × Int × Int) => inR q.2.1 → inR q.2.2 → At p l e rm_X11_bitsOf s m args below meth c g 4 (MQ below (QI g s.heap.size res σ inR) args s 0 0 (AA g s.heap.size)) 15 [(1, .float q.1), (2, vi q.2.1), (3, vi q.2.2)] [] σ) ?_ N _ hF ⟨by decide, by decide⟩ (isB.r (Or.inl rfl))
    intro nx15 q ih15 hF
    obtain ⟨v1, v2, v3⟩ := q
    intro h2 h3
    have hF : F_X11_bitsOf_B15 N  nx15  v1 v2 v3 σ = some res := hF
    unfold F_X11_bitsOf_B15 at hF
    have J40 : ∀ (v1 : UInt32) (v2 : Int), inR v2 → F_X11_bitsOf_J40 N  v1 v2 σ = some res → At p l e rm_X11_bitsOf s m args below meth c g 4 (MQ below (QI g s.heap.size res σ inR) args s 0 0 (AA g s.heap.size)) 40 [(1, .float v1), (2, vi v2)] [] σ := by
      intro v1 v2 h2 hF
      unfold F_X11_bitsOf_J40 at hF
      refine at_iconst C dX11_bitsOf_40 ?_
      refine at_istore_n C dX11_bitsOf_41 rfl (Nat.le_of_ble_eq_true rfl) rfl ?_
      refine at_sub [1, 2, 0] rfl ?_
      refine loopK_ind (res := res) (P := fun (q : UInt32 × Int × Int) => inR q.2.1 → inR q.2.2 → At p l e rm_X11_bitsOf s m args below meth c g 4 (MQ below (QI g s.heap.size res σ inR) args s 0 0 (AA g s.heap.size)) 42 [(1, .float q.1), (2, vi q.2.1), (3, vi q.2.2)] [] σ) ?_ N _ hF h2 (isB.r (Or.inl rfl))
      intro nx42 q ih42 hF
      obtain ⟨v1, v2, v3⟩ := q
      intro h2 h3
      have hF : F_X11_bitsOf_B42 N  nx42  v1 v2 v3 σ = some res := hF
      unfold F_X11_bitsOf_B42 at hF
      have J67 : ∀ (v1 : UInt32) (v2 : Int), inR v2 → F_X11_bitsOf_J67 N  v1 v2 σ = some res → At p l e rm_X11_bitsOf s m args below meth c g 4 (MQ below (QI g s.heap.size res σ inR) args s 0 0 (AA g s.heap.size)) 67 [(1, .float v1), (2, vi v2)] [] σ := by
        intro v1 v2 h2 hF
        unfold F_X11_bitsOf_J67 at hF
        refine at_iload_n C 1 dX11_bitsOf_67 rfl rfl ?_
        refine at_bipush C dX11_bitsOf_68 (by decide) ?_
        refine at_ishl C dX11_bitsOf_70 ?_
        refine at_fload_n C 0 dX11_bitsOf_71 rfl rfl ?_
        refine at_fconst1 C dX11_bitsOf_72 ?_
        obtain ⟨n2, hF⟩ := grd_some hF
        refine at_fsub C dX11_bitsOf_73 n2 ?_
        refine at_ldcf C dX11_bitsOf_74 w756 ?_
        obtain ⟨n3, hF⟩ := grd_some hF
        refine at_fmul C dX11_bitsOf_77 n3 ?_
        refine at_f2i C dX11_bitsOf_78 ?_
        refine at_ior C dX11_bitsOf_79 ?_
        obtain rfl := Option.some.inj hF
        exact at_iret C hr hlk (jor_R _ _) ok dX11_bitsOf_80
      refine at_iload_n C 2 dX11_bitsOf_42 rfl rfl ?_
      refine at_bipush C dX11_bitsOf_43 (by decide) ?_
      refine at_icmp_ge C h3 ⟨by decide, by decide⟩ dX11_bitsOf_45 rfl (fun c4 => ?_) (fun c4 => ?_)
      · have hF := (if_pos c4).symm.trans hF
        refine at_sub [0, 1] rfl ?_
        exact J67 v1 v2 h2 hF
      · have hF := (if_neg c4).symm.trans hF
        refine at_fload_n C 0 dX11_bitsOf_48 rfl rfl ?_
        refine at_fconst1 C dX11_bitsOf_49 ?_
        refine at_fcmp C dX11_bitsOf_50 ?_
        refine at_if_ge C (jfcmp_R _ _ _) dX11_bitsOf_51 rfl (fun c5 => ?_) (fun c5 => ?_)
        · have hF := (if_pos c5).symm.trans hF
          refine at_sub [0, 1] rfl ?_
          exact J67 v1 v2 h2 hF
        · have hF := (if_neg c5).symm.trans hF
          refine at_fload_n C 0 dX11_bitsOf_54 rfl rfl ?_
          refine at_fconst2 C dX11_bitsOf_55 ?_
          obtain ⟨n6, hF⟩ := grd_some hF
          refine at_fmul C dX11_bitsOf_56 n6 ?_
          refine at_fstore_n C dX11_bitsOf_57 rfl (Nat.le_of_ble_eq_true rfl) rfl ?_
          refine at_iinc C 1 dX11_bitsOf_58 rfl (Nat.le_of_ble_eq_true rfl) rfl ?_
          refine at_iinc C 2 dX11_bitsOf_61 rfl (Nat.le_of_ble_eq_true rfl) rfl ?_
          refine at_goto C dX11_bitsOf_64 rfl ?_
          refine at_sub [2, 1, 0] rfl ?_
          exact ih42 _ hF (ja_R _ _) (ja_R _ _)
    refine at_iload_n C 2 dX11_bitsOf_15 rfl rfl ?_
    refine at_bipush C dX11_bitsOf_16 (by decide) ?_
    refine at_icmp_ge C h3 ⟨by decide, by decide⟩ dX11_bitsOf_18 rfl (fun c7 => ?_) (fun c7 => ?_)
    · have hF := (if_pos c7).symm.trans hF
      refine at_sub [0, 1] rfl ?_
      exact J40 v1 v2 h2 hF
    · have hF := (if_neg c7).symm.trans hF
      refine at_fload_n C 0 dX11_bitsOf_21 rfl rfl ?_
      refine at_fconst2 C dX11_bitsOf_22 ?_
      refine at_fcmp C dX11_bitsOf_23 ?_
      refine at_if_lt C (jfcmp_R _ _ _) dX11_bitsOf_24 rfl (fun c8 => ?_) (fun c8 => ?_)
      · have hF := (if_pos c8).symm.trans hF
        refine at_sub [0, 1] rfl ?_
        exact J40 v1 v2 h2 hF
      · have hF := (if_neg c8).symm.trans hF
        refine at_fload_n C 0 dX11_bitsOf_27 rfl rfl ?_
        refine at_fconst2 C dX11_bitsOf_28 ?_
        obtain ⟨n9, hF⟩ := grd_some hF
        refine at_fdiv C dX11_bitsOf_29 n9 ?_
        refine at_fstore_n C dX11_bitsOf_30 rfl (Nat.le_of_ble_eq_true rfl) rfl ?_
        refine at_iinc C 1 dX11_bitsOf_31 rfl (Nat.le_of_ble_eq_true rfl) rfl ?_
        refine at_iinc C 2 dX11_bitsOf_34 rfl (Nat.le_of_ble_eq_true rfl) rfl ?_
        refine at_goto C dX11_bitsOf_37 rfl ?_
        refine at_sub [2, 1, 0] rfl ?_
        exact ih15 _ hF (ja_R _ _) (ja_R _ _)
  · have hF := (if_neg c1).symm.trans hF
    refine at_iconst C dX11_bitsOf_6 ?_
    obtain rfl := Option.some.inj hF
    exact at_iret C hr hlk (isB.r (Or.inl rfl)) ok dX11_bitsOf_7
abbrev rm_X11_share : Room := { frames := 2, cells := 0, slots := 0, locals := 48 }
def F_X11_share (N : Nat) (v1 : Int) (v2 : Int) (v3 : Int) (σ : Sto) : Option (Int × Sto) :=
  (F_X11_areMembers N v1 v2 σ).bind (fun q1 => if q1 = 0 then (some ((-1), σ)) else ((F_X11_isDay N v3 σ).bind (fun q3 => if q3 = 0 then (some ((-1), σ)) else (asB (σ.1 0 1) (fun b5 => (F_X10_load N b5 v3 σ).bind (fun q6 => inb (ja (jm v1 8) v2) 64 ((F_X11_bitsOf N (fb (q6.2 49 (ja (jm v1 8) v2))) q6).bind (fun q8 => some (q8, q6)))))))))
set_option maxHeartbeats 4000000 in
set_option maxRecDepth 100000 in
theorem c_X11_share (l : Launch) (g : Geo) (N : Nat) (v1 : Int) (v2 : Int) (v3 : Int) (σ : Sto) (res : Int × Sto) (h1 : inR v1) (h2 : inR v2) (h3 : inR v3) (ok : OK σ) (hF : F_X11_share N v1 v2 v3 σ = some res) : MtI l g yX11_share cX11_share 4 (some .int) rm_X11_share [vr g 0, vi v1, vi v2, vi v3] σ res.1 res.2 inR := by
  intro sz
  refine Met.ofAt (own := RX11) (QQ := fun z => QI g z res.1 res.2 inR) (by decide +kernel) (Nat.le_of_ble_eq_true rfl) rfl ?_
  intro p e s m args below meth c C hr hlk
  show At p l e rm_X11_share s m args below meth c g 4 (MQ below (QI g s.heap.size res.1 res.2 inR) args s 0 0 (AA g s.heap.size)) 0 [(0, vr g 0), (1, vi v1), (2, vi v2), (3, vi v3)] [] σ
  unfold F_X11_share at hF
  refine at_aload_n C 0 dX11_share_0 rfl rfl ?_
  refine at_iload_n C 1 dX11_share_1 rfl rfl ?_
  refine at_iload_n C 2 dX11_share_2 rfl rfl ?_
  obtain ⟨q1, eq1, hF⟩ := bind_some' hF
  refine at_callV (ci := 11) C (c_X11_areMembers l g N v1 v2 σ q1 h1 h2 ok eq1) kv_X11_areMembers w725 kd0 rfl rfl rfl rfl (Nat.le_of_ble_eq_true rfl) ⟨rfl, rfl, (Nat.le_of_ble_eq_true rfl), (Nat.le_of_ble_eq_true rfl)⟩ dX11_share_3 (fun tq1 okq1 => ?_)
  refine at_if_eq C (isB.r tq1) dX11_share_6 rfl (fun c2 => ?_) (fun c2 => ?_)
  · have hF := (if_pos c2).symm.trans hF
    refine at_iconst C dX11_share_16 ?_
    obtain rfl := Option.some.inj hF
    exact at_iret C hr hlk ⟨by decide, by decide⟩ ok dX11_share_17
  · have hF := (if_neg c2).symm.trans hF
    refine at_iload_n C 3 dX11_share_9 rfl rfl ?_
    obtain ⟨q3, eq3, hF⟩ := bind_some' hF
    refine at_callS C (c_X11_isDay l g N v3 σ q3 h3 ok eq3) ks_X11_isDay w733 rfl rfl (Nat.le_of_ble_eq_true rfl) ⟨rfl, rfl, (Nat.le_of_ble_eq_true rfl), (Nat.le_of_ble_eq_true rfl)⟩ dX11_share_10 (fun tq3 okq3 => ?_)
    refine at_if_ne C (isB.r tq3) dX11_share_13 rfl (fun c4 => ?_) (fun c4 => ?_)
    · have hF := (if_neg c4).symm.trans hF
      refine at_aload_n C 0 dX11_share_18 rfl rfl ?_
      refine at_getr (k' := 46) C 46 fw_11_50 kd0 rfl (Nat.le_of_ble_eq_true rfl) rfl rfl dX11_share_19 ?_
      refine at_aload_n C 0 dX11_share_22 rfl rfl ?_
      obtain ⟨b5, eb5, kb5, hF⟩ := asB_some hF
      refine at_getd (jz := 1) (k2 := b5) C fw_11_19 kd0 rfl (Nat.le_of_ble_eq_true rfl) rfl rfl eb5 dX11_share_23 ?_
      refine at_iload_n C 3 dX11_share_26 rfl rfl ?_
      obtain ⟨q6, eq6, hF⟩ := bind_some' hF
      refine at_callVv (ci := 10) C (c_X10_load l g N b5 v3 σ q6 kb5 h3 ok eq6) kv_X10_load w736 kd46 rfl rfl rfl rfl (Nat.le_of_ble_eq_true rfl) ⟨rfl, rfl, (Nat.le_of_ble_eq_true rfl), (Nat.le_of_ble_eq_true rfl)⟩ dX11_share_27 (fun okq6 => ?_)
      refine at_aload_n C 0 dX11_share_30 rfl rfl ?_
      refine at_getr (k' := 46) C 46 fw_11_50 kd0 rfl (Nat.le_of_ble_eq_true rfl) rfl rfl dX11_share_31 ?_
      refine at_getr (k' := 49) C 3 fw_11_205 kd46 rfl (Nat.le_of_ble_eq_true rfl) rfl rfl dX11_share_34 ?_
      refine at_iload_n C 1 dX11_share_37 rfl rfl ?_
      refine at_bipush C dX11_share_38 (by decide) ?_
      refine at_imul C dX11_share_40 ?_
      refine at_iload_n C 2 dX11_share_41 rfl rfl ?_
      refine at_iadd C dX11_share_42 ?_
      obtain ⟨b7, hF⟩ := inb_some hF
      refine at_faload C kd49 b7 dX11_share_43 ?_
      obtain ⟨q8, eq8, hF⟩ := bind_some' hF
      refine at_callS C (c_X11_bitsOf l g N (fb (q6.2 49 (ja (jm v1 8) v2))) q6 q8  okq6 eq8) ks_X11_bitsOf w753 rfl rfl (Nat.le_of_ble_eq_true rfl) ⟨rfl, rfl, (Nat.le_of_ble_eq_true rfl), (Nat.le_of_ble_eq_true rfl)⟩ dX11_share_44 (fun tq8 okq8 => ?_)
      obtain rfl := Option.some.inj hF
      exact at_iret C hr hlk tq8 okq6 dX11_share_47
    · have hF := (if_pos c4).symm.trans hF
      refine at_iconst C dX11_share_16 ?_
      obtain rfl := Option.some.inj hF
      exact at_iret C hr hlk ⟨by decide, by decide⟩ ok dX11_share_17
abbrev rm_X11_parts : Room := { frames := 2, cells := 0, slots := 0, locals := 48 }
def F_X11_parts (N : Nat) (v1 : Int) (v2 : Int) (v3 : Int) (σ : Sto) : Option (Int × Sto) :=
  (F_X11_areMembers N v1 v2 σ).bind (fun q1 => if q1 = 0 then (some ((-1), σ)) else ((F_X11_isDay N v3 σ).bind (fun q3 => if q3 = 0 then (some ((-1), σ)) else (asB (σ.1 0 1) (fun b5 => (F_X10_load N b5 v3 σ).bind (fun q6 => inb (ja (jm v1 8) v2) 64 (grd (vf_n64 (FP.f2d (fb (q6.2 49 (ja (jm v1 8) v2))))) (Classical.propDecidable _) (grd (vf_n64 (FP.dmul (FP.f2d (fb (q6.2 49 (ja (jm v1 8) v2)))) 4666723172467343360)) (Classical.propDecidable _) (grd (vf_n64 (FP.dadd (FP.dmul (FP.f2d (fb (q6.2 49 (ja (jm v1 8) v2)))) 4666723172467343360) 4602678819172646912)) (Classical.propDecidable _) (some ((jd2i (FP.dadd (FP.dmul (FP.f2d (fb (q6.2 49 (ja (jm v1 8) v2)))) 4666723172467343360) 4602678819172646912)), q6)))))))))))
set_option maxHeartbeats 4000000 in
set_option maxRecDepth 100000 in
theorem c_X11_parts (l : Launch) (g : Geo) (N : Nat) (v1 : Int) (v2 : Int) (v3 : Int) (σ : Sto) (res : Int × Sto) (h1 : inR v1) (h2 : inR v2) (h3 : inR v3) (ok : OK σ) (hF : F_X11_parts N v1 v2 v3 σ = some res) : MtI l g yX11_parts cX11_parts 6 (some .int) rm_X11_parts [vr g 0, vi v1, vi v2, vi v3] σ res.1 res.2 inR := by
  intro sz
  refine Met.ofAt (own := RX11) (QQ := fun z => QI g z res.1 res.2 inR) (by decide +kernel) (Nat.le_of_ble_eq_true rfl) rfl ?_
  intro p e s m args below meth c C hr hlk
  show At p l e rm_X11_parts s m args below meth c g 6 (MQ below (QI g s.heap.size res.1 res.2 inR) args s 0 0 (AA g s.heap.size)) 0 [(0, vr g 0), (1, vi v1), (2, vi v2), (3, vi v3)] [] σ
  unfold F_X11_parts at hF
  refine at_aload_n C 0 dX11_parts_0 rfl rfl ?_
  refine at_iload_n C 1 dX11_parts_1 rfl rfl ?_
  refine at_iload_n C 2 dX11_parts_2 rfl rfl ?_
  obtain ⟨q1, eq1, hF⟩ := bind_some' hF
  refine at_callV (ci := 11) C (c_X11_areMembers l g N v1 v2 σ q1 h1 h2 ok eq1) kv_X11_areMembers w725 kd0 rfl rfl rfl rfl (Nat.le_of_ble_eq_true rfl) ⟨rfl, rfl, (Nat.le_of_ble_eq_true rfl), (Nat.le_of_ble_eq_true rfl)⟩ dX11_parts_3 (fun tq1 okq1 => ?_)
  refine at_if_eq C (isB.r tq1) dX11_parts_6 rfl (fun c2 => ?_) (fun c2 => ?_)
  · have hF := (if_pos c2).symm.trans hF
    refine at_iconst C dX11_parts_16 ?_
    obtain rfl := Option.some.inj hF
    exact at_iret C hr hlk ⟨by decide, by decide⟩ ok dX11_parts_17
  · have hF := (if_neg c2).symm.trans hF
    refine at_iload_n C 3 dX11_parts_9 rfl rfl ?_
    obtain ⟨q3, eq3, hF⟩ := bind_some' hF
    refine at_callS C (c_X11_isDay l g N v3 σ q3 h3 ok eq3) ks_X11_isDay w733 rfl rfl (Nat.le_of_ble_eq_true rfl) ⟨rfl, rfl, (Nat.le_of_ble_eq_true rfl), (Nat.le_of_ble_eq_true rfl)⟩ dX11_parts_10 (fun tq3 okq3 => ?_)
    refine at_if_ne C (isB.r tq3) dX11_parts_13 rfl (fun c4 => ?_) (fun c4 => ?_)
    · have hF := (if_neg c4).symm.trans hF
      refine at_aload_n C 0 dX11_parts_18 rfl rfl ?_
      refine at_getr (k' := 46) C 46 fw_11_50 kd0 rfl (Nat.le_of_ble_eq_true rfl) rfl rfl dX11_parts_19 ?_
      refine at_aload_n C 0 dX11_parts_22 rfl rfl ?_
      obtain ⟨b5, eb5, kb5, hF⟩ := asB_some hF
      refine at_getd (jz := 1) (k2 := b5) C fw_11_19 kd0 rfl (Nat.le_of_ble_eq_true rfl) rfl rfl eb5 dX11_parts_23 ?_
      refine at_iload_n C 3 dX11_parts_26 rfl rfl ?_
      obtain ⟨q6, eq6, hF⟩ := bind_some' hF
      refine at_callVv (ci := 10) C (c_X10_load l g N b5 v3 σ q6 kb5 h3 ok eq6) kv_X10_load w736 kd46 rfl rfl rfl rfl (Nat.le_of_ble_eq_true rfl) ⟨rfl, rfl, (Nat.le_of_ble_eq_true rfl), (Nat.le_of_ble_eq_true rfl)⟩ dX11_parts_27 (fun okq6 => ?_)
      refine at_aload_n C 0 dX11_parts_30 rfl rfl ?_
      refine at_getr (k' := 46) C 46 fw_11_50 kd0 rfl (Nat.le_of_ble_eq_true rfl) rfl rfl dX11_parts_31 ?_
      refine at_getr (k' := 49) C 3 fw_11_205 kd46 rfl (Nat.le_of_ble_eq_true rfl) rfl rfl dX11_parts_34 ?_
      refine at_iload_n C 1 dX11_parts_37 rfl rfl ?_
      refine at_bipush C dX11_parts_38 (by decide) ?_
      refine at_imul C dX11_parts_40 ?_
      refine at_iload_n C 2 dX11_parts_41 rfl rfl ?_
      refine at_iadd C dX11_parts_42 ?_
      obtain ⟨b7, hF⟩ := inb_some hF
      refine at_faload C kd49 b7 dX11_parts_43 ?_
      obtain ⟨n8, hF⟩ := grd_some hF
      refine at_f2d C dX11_parts_44 n8 ?_
      refine at_dstore C dX11_parts_45 (Nat.le_of_ble_eq_true rfl) rfl ?_
      refine at_dload C 0 dX11_parts_47 rfl ?_
      refine at_ldc2d C dX11_parts_49 w761 ?_
      obtain ⟨n9, hF⟩ := grd_some hF
      refine at_dmul C dX11_parts_52 n9 ?_
      refine at_ldc2d C dX11_parts_53 w762 ?_
      obtain ⟨n10, hF⟩ := grd_some hF
      refine at_dadd C dX11_parts_56 n10 ?_
      refine at_d2i C dX11_parts_57 ?_
      obtain rfl := Option.some.inj hF
      exact at_iret C hr hlk (jd2i_R _) okq6 dX11_parts_58
    · have hF := (if_pos c4).symm.trans hF
      refine at_iconst C dX11_parts_16 ?_
      obtain rfl := Option.some.inj hF
      exact at_iret C hr hlk ⟨by decide, by decide⟩ ok dX11_parts_17
abbrev rm_X11_controls : Room := { frames := 3, cells := 0, slots := 0, locals := 65 }
def F_X11_controls (N : Nat) (v1 : Int) (v2 : Int) (v3 : Int) (σ : Sto) : Option (Int × Sto) :=
  (F_X11_isPair N v1 v2 σ).bind (fun q1 => if q1 = 0 then (some ((-1), σ)) else ((F_X11_isDay N v3 σ).bind (fun q3 => if q3 = 0 then (some ((-1), σ)) else (asB (σ.1 0 1) (fun b5 => (F_X10_load N b5 v3 σ).bind (fun q6 => asB (q6.1 0 1) (fun b7 => (F_X10_judge N (q6.1 b7 10) q6).bind (fun q8 => inb v1 8 (some ((jand (jshr (q8.1 50 v1) v2) 1), q8))))))))))
set_option maxHeartbeats 4000000 in
set_option maxRecDepth 100000 in
theorem c_X11_controls (l : Launch) (g : Geo) (N : Nat) (v1 : Int) (v2 : Int) (v3 : Int) (σ : Sto) (res : Int × Sto) (h1 : inR v1) (h2 : inR v2) (h3 : inR v3) (ok : OK σ) (hF : F_X11_controls N v1 v2 v3 σ = some res) : MtI l g yX11_controls cX11_controls 4 (some .int) rm_X11_controls [vr g 0, vi v1, vi v2, vi v3] σ res.1 res.2 inR := by
  intro sz
  refine Met.ofAt (own := RX11) (QQ := fun z => QI g z res.1 res.2 inR) (by decide +kernel) (Nat.le_of_ble_eq_true rfl) rfl ?_
  intro p e s m args below meth c C hr hlk
  show At p l e rm_X11_controls s m args below meth c g 4 (MQ below (QI g s.heap.size res.1 res.2 inR) args s 0 0 (AA g s.heap.size)) 0 [(0, vr g 0), (1, vi v1), (2, vi v2), (3, vi v3)] [] σ
  unfold F_X11_controls at hF
  refine at_aload_n C 0 dX11_controls_0 rfl rfl ?_
  refine at_iload_n C 1 dX11_controls_1 rfl rfl ?_
  refine at_iload_n C 2 dX11_controls_2 rfl rfl ?_
  obtain ⟨q1, eq1, hF⟩ := bind_some' hF
  refine at_callV (ci := 11) C (c_X11_isPair l g N v1 v2 σ q1 h1 h2 ok eq1) kv_X11_isPair w721 kd0 rfl rfl rfl rfl (Nat.le_of_ble_eq_true rfl) ⟨rfl, rfl, (Nat.le_of_ble_eq_true rfl), (Nat.le_of_ble_eq_true rfl)⟩ dX11_controls_3 (fun tq1 okq1 => ?_)
  refine at_if_eq C (isB.r tq1) dX11_controls_6 rfl (fun c2 => ?_) (fun c2 => ?_)
  · have hF := (if_pos c2).symm.trans hF
    refine at_iconst C dX11_controls_16 ?_
    obtain rfl := Option.some.inj hF
    exact at_iret C hr hlk ⟨by decide, by decide⟩ ok dX11_controls_17
  · have hF := (if_neg c2).symm.trans hF
    refine at_iload_n C 3 dX11_controls_9 rfl rfl ?_
    obtain ⟨q3, eq3, hF⟩ := bind_some' hF
    refine at_callS C (c_X11_isDay l g N v3 σ q3 h3 ok eq3) ks_X11_isDay w733 rfl rfl (Nat.le_of_ble_eq_true rfl) ⟨rfl, rfl, (Nat.le_of_ble_eq_true rfl), (Nat.le_of_ble_eq_true rfl)⟩ dX11_controls_10 (fun tq3 okq3 => ?_)
    refine at_if_ne C (isB.r tq3) dX11_controls_13 rfl (fun c4 => ?_) (fun c4 => ?_)
    · have hF := (if_neg c4).symm.trans hF
      refine at_aload_n C 0 dX11_controls_18 rfl rfl ?_
      refine at_getr (k' := 46) C 46 fw_11_50 kd0 rfl (Nat.le_of_ble_eq_true rfl) rfl rfl dX11_controls_19 ?_
      refine at_aload_n C 0 dX11_controls_22 rfl rfl ?_
      obtain ⟨b5, eb5, kb5, hF⟩ := asB_some hF
      refine at_getd (jz := 1) (k2 := b5) C fw_11_19 kd0 rfl (Nat.le_of_ble_eq_true rfl) rfl rfl eb5 dX11_controls_23 ?_
      refine at_iload_n C 3 dX11_controls_26 rfl rfl ?_
      obtain ⟨q6, eq6, hF⟩ := bind_some' hF
      refine at_callVv (ci := 10) C (c_X10_load l g N b5 v3 σ q6 kb5 h3 ok eq6) kv_X10_load w736 kd46 rfl rfl rfl rfl (Nat.le_of_ble_eq_true rfl) ⟨rfl, rfl, (Nat.le_of_ble_eq_true rfl), (Nat.le_of_ble_eq_true rfl)⟩ dX11_controls_27 (fun okq6 => ?_)
      refine at_aload_n C 0 dX11_controls_30 rfl rfl ?_
      refine at_getr (k' := 46) C 46 fw_11_50 kd0 rfl (Nat.le_of_ble_eq_true rfl) rfl rfl dX11_controls_31 ?_
      refine at_aload_n C 0 dX11_controls_34 rfl rfl ?_
      obtain ⟨b7, eb7, kb7, hF⟩ := asB_some hF
      refine at_getd (jz := 1) (k2 := b7) C fw_11_19 kd0 rfl (Nat.le_of_ble_eq_true rfl) rfl rfl eb7 dX11_controls_35 ?_
      refine at_geti (jz := 10) C fw_11_217 kb7 rfl (Nat.le_of_ble_eq_true rfl) rfl rfl dX11_controls_38 ?_
      obtain ⟨q8, eq8, hF⟩ := bind_some' hF
      refine at_callVv (ci := 10) C (c_X10_judge l g N (q6.1 b7 10) q6 q8 (okq6 _ _) okq6 eq8) kv_X10_judge w767 kd46 rfl rfl rfl rfl (Nat.le_of_ble_eq_true rfl) ⟨rfl, rfl, (Nat.le_of_ble_eq_true rfl), (Nat.le_of_ble_eq_true rfl)⟩ dX11_controls_41 (fun okq8 => ?_)
      refine at_aload_n C 0 dX11_controls_44 rfl rfl ?_
      refine at_getr (k' := 46) C 46 fw_11_50 kd0 rfl (Nat.le_of_ble_eq_true rfl) rfl rfl dX11_controls_45 ?_
      refine at_getr (k' := 50) C 4 fw_11_223 kd46 rfl (Nat.le_of_ble_eq_true rfl) rfl rfl dX11_controls_48 ?_
      refine at_iload_n C 1 dX11_controls_51 rfl rfl ?_
      obtain ⟨b9, hF⟩ := inb_some hF
      refine at_iaload C kd50 b9 dX11_controls_52 ?_
      refine at_iload_n C 2 dX11_controls_53 rfl rfl ?_
      refine at_ishr C dX11_controls_54 ?_
      refine at_iconst C dX11_controls_55 ?_
      refine at_iand C dX11_controls_56 ?_
      obtain rfl := Option.some.inj hF
      exact at_iret C hr hlk (jand_R _ _) okq8 dX11_controls_57
    · have hF := (if_pos c4).symm.trans hF
      refine at_iconst C dX11_controls_16 ?_
      obtain rfl := Option.some.inj hF
      exact at_iret C hr hlk ⟨by decide, by decide⟩ ok dX11_controls_17
abbrev rm_X11_related : Room := { frames := 2, cells := 0, slots := 0, locals := 48 }
def F_X11_related (N : Nat) (v1 : Int) (v2 : Int) (σ : Sto) : Option (Int × Sto) :=
  asB (σ.1 0 1) (fun b1 => (F_X0_hasMember N b1 v1 σ).bind (fun q2 => if q2 = 0 then (some ((-1), σ)) else ((F_X11_isDay N v2 σ).bind (fun q4 => if q4 = 0 then (some ((-1), σ)) else (asB (σ.1 0 1) (fun b6 => (F_X10_load N b6 v2 σ).bind (fun q7 => asB (q7.1 0 1) (fun b8 => (F_X10_judge N (q7.1 b8 10) q7).bind (fun q9 => (F_X10_relativesOf N v1 q9).bind (fun q10 => some (q10, q9)))))))))))
set_option maxHeartbeats 4000000 in
set_option maxRecDepth 100000 in
theorem c_X11_related (l : Launch) (g : Geo) (N : Nat) (v1 : Int) (v2 : Int) (σ : Sto) (res : Int × Sto) (h1 : inR v1) (h2 : inR v2) (ok : OK σ) (hF : F_X11_related N v1 v2 σ = some res) : MtI l g yX11_related cX11_related 3 (some .int) rm_X11_related [vr g 0, vi v1, vi v2] σ res.1 res.2 inR := by
  intro sz
  refine Met.ofAt (own := RX11) (QQ := fun z => QI g z res.1 res.2 inR) (by decide +kernel) (Nat.le_of_ble_eq_true rfl) rfl ?_
  intro p e s m args below meth c C hr hlk
  show At p l e rm_X11_related s m args below meth c g 3 (MQ below (QI g s.heap.size res.1 res.2 inR) args s 0 0 (AA g s.heap.size)) 0 [(0, vr g 0), (1, vi v1), (2, vi v2)] [] σ
  unfold F_X11_related at hF
  refine at_aload_n C 0 dX11_related_0 rfl rfl ?_
  obtain ⟨b1, eb1, kb1, hF⟩ := asB_some hF
  refine at_getd (jz := 1) (k2 := b1) C fw_11_19 kd0 rfl (Nat.le_of_ble_eq_true rfl) rfl rfl eb1 dX11_related_1 ?_
  refine at_iload_n C 1 dX11_related_4 rfl rfl ?_
  obtain ⟨q2, eq2, hF⟩ := bind_some' hF
  refine at_callV (ci := 0) C (c_X0_hasMember l g N b1 v1 σ q2 kb1 h1 ok eq2) kv_X0_hasMember w729 kb1 rfl rfl rfl rfl (Nat.le_of_ble_eq_true rfl) ⟨rfl, rfl, (Nat.le_of_ble_eq_true rfl), (Nat.le_of_ble_eq_true rfl)⟩ dX11_related_5 (fun tq2 okq2 => ?_)
  refine at_if_eq C (isB.r tq2) dX11_related_8 rfl (fun c3 => ?_) (fun c3 => ?_)
  · have hF := (if_pos c3).symm.trans hF
    refine at_iconst C dX11_related_18 ?_
    obtain rfl := Option.some.inj hF
    exact at_iret C hr hlk ⟨by decide, by decide⟩ ok dX11_related_19
  · have hF := (if_neg c3).symm.trans hF
    refine at_iload_n C 2 dX11_related_11 rfl rfl ?_
    obtain ⟨q4, eq4, hF⟩ := bind_some' hF
    refine at_callS C (c_X11_isDay l g N v2 σ q4 h2 ok eq4) ks_X11_isDay w733 rfl rfl (Nat.le_of_ble_eq_true rfl) ⟨rfl, rfl, (Nat.le_of_ble_eq_true rfl), (Nat.le_of_ble_eq_true rfl)⟩ dX11_related_12 (fun tq4 okq4 => ?_)
    refine at_if_ne C (isB.r tq4) dX11_related_15 rfl (fun c5 => ?_) (fun c5 => ?_)
    · have hF := (if_neg c5).symm.trans hF
      refine at_aload_n C 0 dX11_related_20 rfl rfl ?_
      refine at_getr (k' := 46) C 46 fw_11_50 kd0 rfl (Nat.le_of_ble_eq_true rfl) rfl rfl dX11_related_21 ?_
      refine at_aload_n C 0 dX11_related_24 rfl rfl ?_
      obtain ⟨b6, eb6, kb6, hF⟩ := asB_some hF
      refine at_getd (jz := 1) (k2 := b6) C fw_11_19 kd0 rfl (Nat.le_of_ble_eq_true rfl) rfl rfl eb6 dX11_related_25 ?_
      refine at_iload_n C 2 dX11_related_28 rfl rfl ?_
      obtain ⟨q7, eq7, hF⟩ := bind_some' hF
      refine at_callVv (ci := 10) C (c_X10_load l g N b6 v2 σ q7 kb6 h2 ok eq7) kv_X10_load w736 kd46 rfl rfl rfl rfl (Nat.le_of_ble_eq_true rfl) ⟨rfl, rfl, (Nat.le_of_ble_eq_true rfl), (Nat.le_of_ble_eq_true rfl)⟩ dX11_related_29 (fun okq7 => ?_)
      refine at_aload_n C 0 dX11_related_32 rfl rfl ?_
      refine at_getr (k' := 46) C 46 fw_11_50 kd0 rfl (Nat.le_of_ble_eq_true rfl) rfl rfl dX11_related_33 ?_
      refine at_aload_n C 0 dX11_related_36 rfl rfl ?_
      obtain ⟨b8, eb8, kb8, hF⟩ := asB_some hF
      refine at_getd (jz := 1) (k2 := b8) C fw_11_19 kd0 rfl (Nat.le_of_ble_eq_true rfl) rfl rfl eb8 dX11_related_37 ?_
      refine at_geti (jz := 10) C fw_11_217 kb8 rfl (Nat.le_of_ble_eq_true rfl) rfl rfl dX11_related_40 ?_
      obtain ⟨q9, eq9, hF⟩ := bind_some' hF
      refine at_callVv (ci := 10) C (c_X10_judge l g N (q7.1 b8 10) q7 q9 (okq7 _ _) okq7 eq9) kv_X10_judge w767 kd46 rfl rfl rfl rfl (Nat.le_of_ble_eq_true rfl) ⟨rfl, rfl, (Nat.le_of_ble_eq_true rfl), (Nat.le_of_ble_eq_true rfl)⟩ dX11_related_43 (fun okq9 => ?_)
      refine at_aload_n C 0 dX11_related_46 rfl rfl ?_
      refine at_getr (k' := 46) C 46 fw_11_50 kd0 rfl (Nat.le_of_ble_eq_true rfl) rfl rfl dX11_related_47 ?_
      refine at_iload_n C 1 dX11_related_50 rfl rfl ?_
      obtain ⟨q10, eq10, hF⟩ := bind_some' hF
      refine at_callV (ci := 10) C (c_X10_relativesOf l g N v1 q9 q10 h1 okq9 eq10) kv_X10_relativesOf w775 kd46 rfl rfl rfl rfl (Nat.le_of_ble_eq_true rfl) ⟨rfl, rfl, (Nat.le_of_ble_eq_true rfl), (Nat.le_of_ble_eq_true rfl)⟩ dX11_related_51 (fun tq10 okq10 => ?_)
      obtain rfl := Option.some.inj hF
      exact at_iret C hr hlk tq10 okq9 dX11_related_54
    · have hF := (if_pos c5).symm.trans hF
      refine at_iconst C dX11_related_18 ?_
      obtain rfl := Option.some.inj hF
      exact at_iret C hr hlk ⟨by decide, by decide⟩ ok dX11_related_19
abbrev rm_X11_groups : Room := { frames := 3, cells := 0, slots := 0, locals := 70 }
def F_X11_groups (N : Nat) (v1 : Int) (σ : Sto) : Option (Int × Sto) :=
  (F_X11_isDay N v1 σ).bind (fun q1 => if q1 = 0 then (some ((-1), σ)) else (asB (σ.1 0 1) (fun b3 => (F_X10_load N b3 v1 σ).bind (fun q4 => asB (q4.1 0 1) (fun b5 => (F_X10_judge N (q4.1 b5 10) q4).bind (fun q6 => (F_X10_countGroups N q6).bind (fun q7 => some (q7, q6))))))))
set_option maxHeartbeats 4000000 in
set_option maxRecDepth 100000 in
theorem c_X11_groups (l : Launch) (g : Geo) (N : Nat) (v1 : Int) (σ : Sto) (res : Int × Sto) (h1 : inR v1) (ok : OK σ) (hF : F_X11_groups N v1 σ = some res) : MtI l g yX11_groups cX11_groups 2 (some .int) rm_X11_groups [vr g 0, vi v1] σ res.1 res.2 inR := by
  intro sz
  refine Met.ofAt (own := RX11) (QQ := fun z => QI g z res.1 res.2 inR) (by decide +kernel) (Nat.le_of_ble_eq_true rfl) rfl ?_
  intro p e s m args below meth c C hr hlk
  show At p l e rm_X11_groups s m args below meth c g 2 (MQ below (QI g s.heap.size res.1 res.2 inR) args s 0 0 (AA g s.heap.size)) 0 [(0, vr g 0), (1, vi v1)] [] σ
  unfold F_X11_groups at hF
  refine at_iload_n C 1 dX11_groups_0 rfl rfl ?_
  obtain ⟨q1, eq1, hF⟩ := bind_some' hF
  refine at_callS C (c_X11_isDay l g N v1 σ q1 h1 ok eq1) ks_X11_isDay w733 rfl rfl (Nat.le_of_ble_eq_true rfl) ⟨rfl, rfl, (Nat.le_of_ble_eq_true rfl), (Nat.le_of_ble_eq_true rfl)⟩ dX11_groups_1 (fun tq1 okq1 => ?_)
  refine at_if_ne C (isB.r tq1) dX11_groups_4 rfl (fun c2 => ?_) (fun c2 => ?_)
  · have hF := (if_neg c2).symm.trans hF
    refine at_aload_n C 0 dX11_groups_9 rfl rfl ?_
    refine at_getr (k' := 46) C 46 fw_11_50 kd0 rfl (Nat.le_of_ble_eq_true rfl) rfl rfl dX11_groups_10 ?_
    refine at_aload_n C 0 dX11_groups_13 rfl rfl ?_
    obtain ⟨b3, eb3, kb3, hF⟩ := asB_some hF
    refine at_getd (jz := 1) (k2 := b3) C fw_11_19 kd0 rfl (Nat.le_of_ble_eq_true rfl) rfl rfl eb3 dX11_groups_14 ?_
    refine at_iload_n C 1 dX11_groups_17 rfl rfl ?_
    obtain ⟨q4, eq4, hF⟩ := bind_some' hF
    refine at_callVv (ci := 10) C (c_X10_load l g N b3 v1 σ q4 kb3 h1 ok eq4) kv_X10_load w736 kd46 rfl rfl rfl rfl (Nat.le_of_ble_eq_true rfl) ⟨rfl, rfl, (Nat.le_of_ble_eq_true rfl), (Nat.le_of_ble_eq_true rfl)⟩ dX11_groups_18 (fun okq4 => ?_)
    refine at_aload_n C 0 dX11_groups_21 rfl rfl ?_
    refine at_getr (k' := 46) C 46 fw_11_50 kd0 rfl (Nat.le_of_ble_eq_true rfl) rfl rfl dX11_groups_22 ?_
    refine at_aload_n C 0 dX11_groups_25 rfl rfl ?_
    obtain ⟨b5, eb5, kb5, hF⟩ := asB_some hF
    refine at_getd (jz := 1) (k2 := b5) C fw_11_19 kd0 rfl (Nat.le_of_ble_eq_true rfl) rfl rfl eb5 dX11_groups_26 ?_
    refine at_geti (jz := 10) C fw_11_217 kb5 rfl (Nat.le_of_ble_eq_true rfl) rfl rfl dX11_groups_29 ?_
    obtain ⟨q6, eq6, hF⟩ := bind_some' hF
    refine at_callVv (ci := 10) C (c_X10_judge l g N (q4.1 b5 10) q4 q6 (okq4 _ _) okq4 eq6) kv_X10_judge w767 kd46 rfl rfl rfl rfl (Nat.le_of_ble_eq_true rfl) ⟨rfl, rfl, (Nat.le_of_ble_eq_true rfl), (Nat.le_of_ble_eq_true rfl)⟩ dX11_groups_32 (fun okq6 => ?_)
    refine at_aload_n C 0 dX11_groups_35 rfl rfl ?_
    refine at_getr (k' := 46) C 46 fw_11_50 kd0 rfl (Nat.le_of_ble_eq_true rfl) rfl rfl dX11_groups_36 ?_
    obtain ⟨q7, eq7, hF⟩ := bind_some' hF
    refine at_callV (ci := 10) C (c_X10_countGroups l g N  q6 q7  okq6 eq7) kv_X10_countGroups w783 kd46 rfl rfl rfl rfl (Nat.le_of_ble_eq_true rfl) ⟨rfl, rfl, (Nat.le_of_ble_eq_true rfl), (Nat.le_of_ble_eq_true rfl)⟩ dX11_groups_39 (fun tq7 okq7 => ?_)
    obtain rfl := Option.some.inj hF
    exact at_iret C hr hlk tq7 okq6 dX11_groups_42
  · have hF := (if_pos c2).symm.trans hF
    refine at_iconst C dX11_groups_7 ?_
    obtain rfl := Option.some.inj hF
    exact at_iret C hr hlk ⟨by decide, by decide⟩ ok dX11_groups_8
abbrev rm_X11_refreshNet : Room := { frames := 4, cells := 0, slots := 0, locals := 110 }
def F_X11_refreshNet (N : Nat)  (σ : Sto) : Option (Sto) :=
  if (σ.1 0 16) = 0 then (asB (σ.1 0 1) (fun b2 => asB (σ.1 0 1) (fun b3 => (F_X4_fill N 52 b2 (σ.1 b3 10) 46 σ).bind (fun q4 => asB (q4.1 0 1) (fun b5 => asB (q4.1 0 1) (fun b6 => asB (q4.1 0 1) (fun b7 => (F_X6_fill N 55 b5 52 (q4.1 b6 12) (b7 + 5) q4).bind (fun q8 => some (upI q8 0 16 1))))))))) else (some σ)
set_option maxHeartbeats 4000000 in
set_option maxRecDepth 100000 in
theorem c_X11_refreshNet (l : Launch) (g : Geo) (N : Nat)  (σ : Sto) (res : Sto)  (ok : OK σ) (hF : F_X11_refreshNet N  σ = some res) : MtV l g yX11_refreshNet cX11_refreshNet 1 none rm_X11_refreshNet [vr g 0] σ res := by
  intro sz
  refine Met.ofAt (own := RX11) (QQ := fun z => QV g z res) (by decide +kernel) (Nat.le_of_ble_eq_true rfl) rfl ?_
  intro p e s m args below meth c C hr hlk
  show At p l e rm_X11_refreshNet s m args below meth c g 1 (MQ below (QV g s.heap.size res) args s 0 0 (AA g s.heap.size)) 0 [(0, vr g 0)] [] σ
  unfold F_X11_refreshNet at hF
  refine at_aload_n C 0 dX11_refreshNet_0 rfl rfl ?_
  refine at_geti (jz := 16) C fw_11_98 kd0 rfl (Nat.le_of_ble_eq_true rfl) rfl rfl dX11_refreshNet_1 ?_
  refine at_if_ne C (ok _ _) dX11_refreshNet_4 rfl (fun c1 => ?_) (fun c1 => ?_)
  · have hF := (if_neg c1).symm.trans hF
    obtain rfl := Option.some.inj hF
    exact at_vret C hr hlk ok dX11_refreshNet_63
  · have hF := (if_pos c1).symm.trans hF
    refine at_aload_n C 0 dX11_refreshNet_7 rfl rfl ?_
    refine at_getr (k' := 52) C 52 fw_11_57 kd0 rfl (Nat.le_of_ble_eq_true rfl) rfl rfl dX11_refreshNet_8 ?_
    refine at_aload_n C 0 dX11_refreshNet_11 rfl rfl ?_
    obtain ⟨b2, eb2, kb2, hF⟩ := asB_some hF
    refine at_getd (jz := 1) (k2 := b2) C fw_11_19 kd0 rfl (Nat.le_of_ble_eq_true rfl) rfl rfl eb2 dX11_refreshNet_12 ?_
    refine at_aload_n C 0 dX11_refreshNet_15 rfl rfl ?_
    obtain ⟨b3, eb3, kb3, hF⟩ := asB_some hF
    refine at_getd (jz := 1) (k2 := b3) C fw_11_19 kd0 rfl (Nat.le_of_ble_eq_true rfl) rfl rfl eb3 dX11_refreshNet_16 ?_
    refine at_geti (jz := 10) C fw_11_217 kb3 rfl (Nat.le_of_ble_eq_true rfl) rfl rfl dX11_refreshNet_19 ?_
    refine at_aload_n C 0 dX11_refreshNet_22 rfl rfl ?_
    refine at_getr (k' := 46) C 46 fw_11_50 kd0 rfl (Nat.le_of_ble_eq_true rfl) rfl rfl dX11_refreshNet_23 ?_
    obtain ⟨q4, eq4, hF⟩ := bind_some' hF
    refine at_callVv (ci := 4) C (c_X4_fill l g N 52 b2 (σ.1 b3 10) 46 σ q4 kd52 kb2 (ok _ _) kd46 ok eq4) kv_X4_fill w800 kd52 rfl rfl rfl rfl (Nat.le_of_ble_eq_true rfl) ⟨rfl, rfl, (Nat.le_of_ble_eq_true rfl), (Nat.le_of_ble_eq_true rfl)⟩ dX11_refreshNet_26 (fun okq4 => ?_)
    refine at_aload_n C 0 dX11_refreshNet_29 rfl rfl ?_
    refine at_getr (k' := 55) C 55 fw_11_64 kd0 rfl (Nat.le_of_ble_eq_true rfl) rfl rfl dX11_refreshNet_30 ?_
    refine at_aload_n C 0 dX11_refreshNet_33 rfl rfl ?_
    obtain ⟨b5, eb5, kb5, hF⟩ := asB_some hF
    refine at_getd (jz := 1) (k2 := b5) C fw_11_19 kd0 rfl (Nat.le_of_ble_eq_true rfl) rfl rfl eb5 dX11_refreshNet_34 ?_
    refine at_aload_n C 0 dX11_refreshNet_37 rfl rfl ?_
    refine at_getr (k' := 52) C 52 fw_11_57 kd0 rfl (Nat.le_of_ble_eq_true rfl) rfl rfl dX11_refreshNet_38 ?_
    refine at_aload_n C 0 dX11_refreshNet_41 rfl rfl ?_
    obtain ⟨b6, eb6, kb6, hF⟩ := asB_some hF
    refine at_getd (jz := 1) (k2 := b6) C fw_11_19 kd0 rfl (Nat.le_of_ble_eq_true rfl) rfl rfl eb6 dX11_refreshNet_42 ?_
    refine at_geti (jz := 12) C fw_11_428 kb6 rfl (Nat.le_of_ble_eq_true rfl) rfl rfl dX11_refreshNet_45 ?_
    refine at_aload_n C 0 dX11_refreshNet_48 rfl rfl ?_
    obtain ⟨b7, eb7, kb7, hF⟩ := asB_some hF
    refine at_getd (jz := 1) (k2 := b7) C fw_11_19 kd0 rfl (Nat.le_of_ble_eq_true rfl) rfl rfl eb7 dX11_refreshNet_49 ?_
    refine at_getr C 5 fw_11_172 kb7 rfl (Nat.le_of_ble_eq_true rfl) rfl rfl dX11_refreshNet_52 ?_
    obtain ⟨q8, eq8, hF⟩ := bind_some' hF
    refine at_callVv (ci := 6) C (c_X6_fill l g N 55 b5 52 (q4.1 b6 12) (b7 + 5) q4 q8 kd55 kb5 kd52 (okq4 _ _) (kf0_4 kb7) okq4 eq8) kv_X6_fill w811 kd55 rfl rfl rfl rfl (Nat.le_of_ble_eq_true rfl) ⟨rfl, rfl, (Nat.le_of_ble_eq_true rfl), (Nat.le_of_ble_eq_true rfl)⟩ dX11_refreshNet_55 (fun okq8 => ?_)
    refine at_aload_n C 0 dX11_refreshNet_58 rfl rfl ?_
    refine at_iconst C dX11_refreshNet_59 ?_
    refine at_putz (jz := 16) C fu_11_98 kd0 rfl (Nat.le_of_ble_eq_true rfl) rfl (Or.inr rfl) rfl dX11_refreshNet_60 ?_
    obtain rfl := Option.some.inj hF
    exact at_vret C hr hlk (OK_up okq8 (isB.r (Or.inr rfl))) dX11_refreshNet_63
abbrev rm_X11_days : Room := { frames := 5, cells := 0, slots := 0, locals := 130 }
def F_X11_days (N : Nat) (v1 : Int) (v2 : Int) (v3 : Int) (σ : Sto) : Option (Int × Sto) :=
  (F_X11_isPair N v1 v2 σ).bind (fun q1 => if q1 = 0 then (some ((-1), σ)) else (if v3 < 0 then (some ((-1), σ)) else (if v3 ≤ 2 then ((F_X11_refreshNet N σ).bind (fun q5 => if v3 = 0 then ((F_X4_firstDay N 52 v1 v2 q5).bind (fun q10 => some (q10, q5))) else (if v3 = 1 then ((F_X4_lastDay N 52 v1 v2 q5).bind (fun q9 => some (q9, q5))) else ((F_X4_daysTogether N 52 v1 v2 0 999 q5).bind (fun q8 => some (q8, q5)))))) else (some ((-1), σ)))))
set_option maxHeartbeats 4000000 in
set_option maxRecDepth 100000 in
theorem c_X11_days (l : Launch) (g : Geo) (N : Nat) (v1 : Int) (v2 : Int) (v3 : Int) (σ : Sto) (res : Int × Sto) (h1 : inR v1) (h2 : inR v2) (h3 : inR v3) (ok : OK σ) (hF : F_X11_days N v1 v2 v3 σ = some res) : MtI l g yX11_days cX11_days 4 (some .int) rm_X11_days [vr g 0, vi v1, vi v2, vi v3] σ res.1 res.2 inR := by
  intro sz
  refine Met.ofAt (own := RX11) (QQ := fun z => QI g z res.1 res.2 inR) (by decide +kernel) (Nat.le_of_ble_eq_true rfl) rfl ?_
  intro p e s m args below meth c C hr hlk
  show At p l e rm_X11_days s m args below meth c g 4 (MQ below (QI g s.heap.size res.1 res.2 inR) args s 0 0 (AA g s.heap.size)) 0 [(0, vr g 0), (1, vi v1), (2, vi v2), (3, vi v3)] [] σ
  unfold F_X11_days at hF
  refine at_aload_n C 0 dX11_days_0 rfl rfl ?_
  refine at_iload_n C 1 dX11_days_1 rfl rfl ?_
  refine at_iload_n C 2 dX11_days_2 rfl rfl ?_
  obtain ⟨q1, eq1, hF⟩ := bind_some' hF
  refine at_callV (ci := 11) C (c_X11_isPair l g N v1 v2 σ q1 h1 h2 ok eq1) kv_X11_isPair w721 kd0 rfl rfl rfl rfl (Nat.le_of_ble_eq_true rfl) ⟨rfl, rfl, (Nat.le_of_ble_eq_true rfl), (Nat.le_of_ble_eq_true rfl)⟩ dX11_days_3 (fun tq1 okq1 => ?_)
  refine at_if_eq C (isB.r tq1) dX11_days_6 rfl (fun c2 => ?_) (fun c2 => ?_)
  · have hF := (if_pos c2).symm.trans hF
    refine at_iconst C dX11_days_18 ?_
    obtain rfl := Option.some.inj hF
    exact at_iret C hr hlk ⟨by decide, by decide⟩ ok dX11_days_19
  · have hF := (if_neg c2).symm.trans hF
    refine at_iload_n C 3 dX11_days_9 rfl rfl ?_
    refine at_if_lt C h3 dX11_days_10 rfl (fun c3 => ?_) (fun c3 => ?_)
    · have hF := (if_pos c3).symm.trans hF
      refine at_iconst C dX11_days_18 ?_
      obtain rfl := Option.some.inj hF
      exact at_iret C hr hlk ⟨by decide, by decide⟩ ok dX11_days_19
    · have hF := (if_neg c3).symm.trans hF
      refine at_iload_n C 3 dX11_days_13 rfl rfl ?_
      refine at_iconst C dX11_days_14 ?_
      refine at_icmp_le C h3 ⟨by decide, by decide⟩ dX11_days_15 rfl (fun c4 => ?_) (fun c4 => ?_)
      · have hF := (if_pos c4).symm.trans hF
        refine at_aload_n C 0 dX11_days_20 rfl rfl ?_
        obtain ⟨q5, eq5, hF⟩ := bind_some' hF
        refine at_callVv (ci := 11) C (c_X11_refreshNet l g N  σ q5  ok eq5) kv_X11_refreshNet w796 kd0 rfl rfl rfl rfl (Nat.le_of_ble_eq_true rfl) ⟨rfl, rfl, (Nat.le_of_ble_eq_true rfl), (Nat.le_of_ble_eq_true rfl)⟩ dX11_days_21 (fun okq5 => ?_)
        refine at_iload_n C 3 dX11_days_24 rfl rfl ?_
        refine at_if_ne C h3 dX11_days_25 rfl (fun c6 => ?_) (fun c6 => ?_)
        · have hF := (if_neg c6).symm.trans hF
          refine at_iload_n C 3 dX11_days_38 rfl rfl ?_
          refine at_iconst C dX11_days_39 ?_
          refine at_icmp_ne C h3 (isB.r (Or.inr rfl)) dX11_days_40 rfl (fun c7 => ?_) (fun c7 => ?_)
          · have hF := (if_neg c7).symm.trans hF
            refine at_aload_n C 0 dX11_days_55 rfl rfl ?_
            refine at_getr (k' := 52) C 52 fw_11_57 kd0 rfl (Nat.le_of_ble_eq_true rfl) rfl rfl dX11_days_56 ?_
            refine at_iload_n C 1 dX11_days_59 rfl rfl ?_
            refine at_iload_n C 2 dX11_days_60 rfl rfl ?_
            refine at_iconst C dX11_days_61 ?_
            refine at_sipush C dX11_days_62 (by decide) ?_
            obtain ⟨q8, eq8, hF⟩ := bind_some' hF
            refine at_callV (ci := 4) C (c_X4_daysTogether l g N 52 v1 v2 0 999 q5 q8 kd52 h1 h2 (isB.r (Or.inl rfl)) ⟨by decide, by decide⟩ okq5 eq8) kv_X4_daysTogether w856 kd52 rfl rfl rfl rfl (Nat.le_of_ble_eq_true rfl) ⟨rfl, rfl, (Nat.le_of_ble_eq_true rfl), (Nat.le_of_ble_eq_true rfl)⟩ dX11_days_65 (fun tq8 okq8 => ?_)
            obtain rfl := Option.some.inj hF
            exact at_iret C hr hlk tq8 okq5 dX11_days_68
          · have hF := (if_pos c7).symm.trans hF
            refine at_aload_n C 0 dX11_days_43 rfl rfl ?_
            refine at_getr (k' := 52) C 52 fw_11_57 kd0 rfl (Nat.le_of_ble_eq_true rfl) rfl rfl dX11_days_44 ?_
            refine at_iload_n C 1 dX11_days_47 rfl rfl ?_
            refine at_iload_n C 2 dX11_days_48 rfl rfl ?_
            obtain ⟨q9, eq9, hF⟩ := bind_some' hF
            refine at_callV (ci := 4) C (c_X4_lastDay l g N 52 v1 v2 q5 q9 kd52 h1 h2 okq5 eq9) kv_X4_lastDay w852 kd52 rfl rfl rfl rfl (Nat.le_of_ble_eq_true rfl) ⟨rfl, rfl, (Nat.le_of_ble_eq_true rfl), (Nat.le_of_ble_eq_true rfl)⟩ dX11_days_49 (fun tq9 okq9 => ?_)
            refine at_goto C dX11_days_52 rfl ?_
            obtain rfl := Option.some.inj hF
            exact at_iret C hr hlk tq9 okq5 dX11_days_68
        · have hF := (if_pos c6).symm.trans hF
          refine at_aload_n C 0 dX11_days_28 rfl rfl ?_
          refine at_getr (k' := 52) C 52 fw_11_57 kd0 rfl (Nat.le_of_ble_eq_true rfl) rfl rfl dX11_days_29 ?_
          refine at_iload_n C 1 dX11_days_32 rfl rfl ?_
          refine at_iload_n C 2 dX11_days_33 rfl rfl ?_
          obtain ⟨q10, eq10, hF⟩ := bind_some' hF
          refine at_callV (ci := 4) C (c_X4_firstDay l g N 52 v1 v2 q5 q10 kd52 h1 h2 okq5 eq10) kv_X4_firstDay w848 kd52 rfl rfl rfl rfl (Nat.le_of_ble_eq_true rfl) ⟨rfl, rfl, (Nat.le_of_ble_eq_true rfl), (Nat.le_of_ble_eq_true rfl)⟩ dX11_days_34 (fun tq10 okq10 => ?_)
          obtain rfl := Option.some.inj hF
          exact at_iret C hr hlk tq10 okq5 dX11_days_37
      · have hF := (if_neg c4).symm.trans hF
        refine at_iconst C dX11_days_18 ?_
        obtain rfl := Option.some.inj hF
        exact at_iret C hr hlk ⟨by decide, by decide⟩ ok dX11_days_19
abbrev rm_X11_steps : Room := { frames := 2, cells := 0, slots := 0, locals := 48 }
def F_X11_steps (N : Nat) (v1 : Int) (v2 : Int) (v3 : Int) (σ : Sto) : Option (Int × Sto) :=
  (F_X11_areMembers N v1 v2 σ).bind (fun q1 => if q1 = 0 then (some ((-1), σ)) else ((F_X11_isDay N v3 σ).bind (fun q3 => if q3 = 0 then (some ((-1), σ)) else (asB (σ.1 0 1) (fun b5 => (F_X10_load N b5 v3 σ).bind (fun q6 => (F_X10_stepsBetween N v1 v2 q6).bind (fun q7 => some (q7.1, q7.2))))))))
set_option maxHeartbeats 4000000 in
set_option maxRecDepth 100000 in
theorem c_X11_steps (l : Launch) (g : Geo) (N : Nat) (v1 : Int) (v2 : Int) (v3 : Int) (σ : Sto) (res : Int × Sto) (h1 : inR v1) (h2 : inR v2) (h3 : inR v3) (ok : OK σ) (hF : F_X11_steps N v1 v2 v3 σ = some res) : MtI l g yX11_steps cX11_steps 4 (some .int) rm_X11_steps [vr g 0, vi v1, vi v2, vi v3] σ res.1 res.2 inR := by
  intro sz
  refine Met.ofAt (own := RX11) (QQ := fun z => QI g z res.1 res.2 inR) (by decide +kernel) (Nat.le_of_ble_eq_true rfl) rfl ?_
  intro p e s m args below meth c C hr hlk
  show At p l e rm_X11_steps s m args below meth c g 4 (MQ below (QI g s.heap.size res.1 res.2 inR) args s 0 0 (AA g s.heap.size)) 0 [(0, vr g 0), (1, vi v1), (2, vi v2), (3, vi v3)] [] σ
  unfold F_X11_steps at hF
  refine at_aload_n C 0 dX11_steps_0 rfl rfl ?_
  refine at_iload_n C 1 dX11_steps_1 rfl rfl ?_
  refine at_iload_n C 2 dX11_steps_2 rfl rfl ?_
  obtain ⟨q1, eq1, hF⟩ := bind_some' hF
  refine at_callV (ci := 11) C (c_X11_areMembers l g N v1 v2 σ q1 h1 h2 ok eq1) kv_X11_areMembers w725 kd0 rfl rfl rfl rfl (Nat.le_of_ble_eq_true rfl) ⟨rfl, rfl, (Nat.le_of_ble_eq_true rfl), (Nat.le_of_ble_eq_true rfl)⟩ dX11_steps_3 (fun tq1 okq1 => ?_)
  refine at_if_eq C (isB.r tq1) dX11_steps_6 rfl (fun c2 => ?_) (fun c2 => ?_)
  · have hF := (if_pos c2).symm.trans hF
    refine at_iconst C dX11_steps_16 ?_
    obtain rfl := Option.some.inj hF
    exact at_iret C hr hlk ⟨by decide, by decide⟩ ok dX11_steps_17
  · have hF := (if_neg c2).symm.trans hF
    refine at_iload_n C 3 dX11_steps_9 rfl rfl ?_
    obtain ⟨q3, eq3, hF⟩ := bind_some' hF
    refine at_callS C (c_X11_isDay l g N v3 σ q3 h3 ok eq3) ks_X11_isDay w733 rfl rfl (Nat.le_of_ble_eq_true rfl) ⟨rfl, rfl, (Nat.le_of_ble_eq_true rfl), (Nat.le_of_ble_eq_true rfl)⟩ dX11_steps_10 (fun tq3 okq3 => ?_)
    refine at_if_ne C (isB.r tq3) dX11_steps_13 rfl (fun c4 => ?_) (fun c4 => ?_)
    · have hF := (if_neg c4).symm.trans hF
      refine at_aload_n C 0 dX11_steps_18 rfl rfl ?_
      refine at_getr (k' := 46) C 46 fw_11_50 kd0 rfl (Nat.le_of_ble_eq_true rfl) rfl rfl dX11_steps_19 ?_
      refine at_aload_n C 0 dX11_steps_22 rfl rfl ?_
      obtain ⟨b5, eb5, kb5, hF⟩ := asB_some hF
      refine at_getd (jz := 1) (k2 := b5) C fw_11_19 kd0 rfl (Nat.le_of_ble_eq_true rfl) rfl rfl eb5 dX11_steps_23 ?_
      refine at_iload_n C 3 dX11_steps_26 rfl rfl ?_
      obtain ⟨q6, eq6, hF⟩ := bind_some' hF
      refine at_callVv (ci := 10) C (c_X10_load l g N b5 v3 σ q6 kb5 h3 ok eq6) kv_X10_load w736 kd46 rfl rfl rfl rfl (Nat.le_of_ble_eq_true rfl) ⟨rfl, rfl, (Nat.le_of_ble_eq_true rfl), (Nat.le_of_ble_eq_true rfl)⟩ dX11_steps_27 (fun okq6 => ?_)
      refine at_aload_n C 0 dX11_steps_30 rfl rfl ?_
      refine at_getr (k' := 46) C 46 fw_11_50 kd0 rfl (Nat.le_of_ble_eq_true rfl) rfl rfl dX11_steps_31 ?_
      refine at_iload_n C 1 dX11_steps_34 rfl rfl ?_
      refine at_iload_n C 2 dX11_steps_35 rfl rfl ?_
      obtain ⟨q7, eq7, hF⟩ := bind_some' hF
      refine at_callV (ci := 10) C (c_X10_stepsBetween l g N v1 v2 q6 q7 h1 h2 okq6 eq7) kv_X10_stepsBetween w861 kd46 rfl rfl rfl rfl (Nat.le_of_ble_eq_true rfl) ⟨rfl, rfl, (Nat.le_of_ble_eq_true rfl), (Nat.le_of_ble_eq_true rfl)⟩ dX11_steps_36 (fun tq7 okq7 => ?_)
      obtain rfl := Option.some.inj hF
      exact at_iret C hr hlk tq7 okq7 dX11_steps_39
    · have hF := (if_pos c4).symm.trans hF
      refine at_iconst C dX11_steps_16 ?_
      obtain rfl := Option.some.inj hF
      exact at_iret C hr hlk ⟨by decide, by decide⟩ ok dX11_steps_17
abbrev rm_X11_claimsExceedBounds : Room := { frames := 1, cells := 0, slots := 0, locals := 24 }
def F_X11_claimsExceedBounds_B2 (N : Nat) (nx2 : (Int) → Option (Int))  (v1 : Int) (σ : Sto) : Option (Int) :=
  if (σ.1 29 3) ≤ v1 then (some 0) else (inb v1 30 ((F_X5_takenOn N 29 (σ.1 30 v1) (σ.1 31 v1) σ).bind (fun q3 => inb (ja (jm (σ.1 30 v1) 12) (σ.1 31 v1)) 144 (if q3 ≤ (σ.1 56 (ja (jm (σ.1 30 v1) 12) (σ.1 31 v1))) then (nx2 (ja v1 1)) else (some 1)))))
def F_X11_claimsExceedBounds (N : Nat)  (σ : Sto) : Option (Int) :=
  loopK (fun q nx2 => F_X11_claimsExceedBounds_B2 N  nx2  q σ) N 0
set_option maxHeartbeats 4000000 in
set_option maxRecDepth 100000 in
theorem c_X11_claimsExceedBounds (l : Launch) (g : Geo) (N : Nat)  (σ : Sto) (res : Int)  (ok : OK σ) (hF : F_X11_claimsExceedBounds N  σ = some res) : MtI l g yX11_claimsExceedBounds cX11_claimsExceedBounds 4 (some .boolean) rm_X11_claimsExceedBounds [vr g 0] σ res σ isB := by
  intro sz
  refine Met.ofAt (own := RX11) (QQ := fun z => QI g z res σ isB) (by decide +kernel) (Nat.le_of_ble_eq_true rfl) rfl ?_
  intro p e s m args below meth c C hr hlk
  show At p l e rm_X11_claimsExceedBounds s m args below meth c g 4 (MQ below (QI g s.heap.size res σ isB) args s 0 0 (AA g s.heap.size)) 0 [(0, vr g 0)] [] σ
  unfold F_X11_claimsExceedBounds at hF
  refine at_iconst C dX11_claimsExceedBounds_0 ?_
  refine at_istore_n C dX11_claimsExceedBounds_1 rfl (Nat.le_of_ble_eq_true rfl) rfl ?_
  refine at_sub [1, 0] rfl ?_
  refine loopK_ind (res := res) (P := fun (q : Int) => inR q → At p l e rm_X11_claimsExceedBounds s m args below meth c g 4 (MQ below (QI g s.heap.size res σ isB) args s 0 0 (AA g s.heap.size)) 2 [(0, vr g 0), (1, vi q)] [] σ) ?_ N _ hF (isB.r (Or.inl rfl))
  intro nx2 v1 ih2 hF h1
  have hF : F_X11_claimsExceedBounds_B2 N  nx2  v1 σ = some res := hF
  unfold F_X11_claimsExceedBounds_B2 at hF
  refine at_iload_n C 1 dX11_claimsExceedBounds_2 rfl rfl ?_
  refine at_aload_n C 0 dX11_claimsExceedBounds_3 rfl rfl ?_
  refine at_getr (k' := 29) C 29 fw_11_29 kd0 rfl (Nat.le_of_ble_eq_true rfl) rfl rfl dX11_claimsExceedBounds_4 ?_
  refine at_geti (jz := 3) C fw_11_273 kd29 rfl (Nat.le_of_ble_eq_true rfl) rfl rfl dX11_claimsExceedBounds_7 ?_
  refine at_icmp_ge C h1 (ok _ _) dX11_claimsExceedBounds_10 rfl (fun c1 => ?_) (fun c1 => ?_)
  · have hF := (if_pos c1).symm.trans hF
    refine at_iconst C dX11_claimsExceedBounds_67 ?_
    obtain rfl := Option.some.inj hF
    exact at_zret C hr hlk (Or.inl rfl) ok dX11_claimsExceedBounds_68
  · have hF := (if_neg c1).symm.trans hF
    refine at_aload_n C 0 dX11_claimsExceedBounds_13 rfl rfl ?_
    refine at_getr (k' := 29) C 29 fw_11_29 kd0 rfl (Nat.le_of_ble_eq_true rfl) rfl rfl dX11_claimsExceedBounds_14 ?_
    refine at_getr (k' := 30) C 1 fw_11_274 kd29 rfl (Nat.le_of_ble_eq_true rfl) rfl rfl dX11_claimsExceedBounds_17 ?_
    refine at_iload_n C 1 dX11_claimsExceedBounds_20 rfl rfl ?_
    obtain ⟨b2, hF⟩ := inb_some hF
    refine at_iaload C kd30 b2 dX11_claimsExceedBounds_21 ?_
    refine at_istore_n C dX11_claimsExceedBounds_22 rfl (Nat.le_of_ble_eq_true rfl) rfl ?_
    refine at_aload_n C 1 dX11_claimsExceedBounds_23 rfl rfl ?_
    refine at_getr (k' := 29) C 29 fw_11_29 kd0 rfl (Nat.le_of_ble_eq_true rfl) rfl rfl dX11_claimsExceedBounds_24 ?_
    refine at_getr (k' := 31) C 2 fw_11_277 kd29 rfl (Nat.le_of_ble_eq_true rfl) rfl rfl dX11_claimsExceedBounds_27 ?_
    refine at_iload_n C 2 dX11_claimsExceedBounds_30 rfl rfl ?_
    refine at_iaload C kd31 b2 dX11_claimsExceedBounds_31 ?_
    refine at_istore_n C dX11_claimsExceedBounds_32 rfl (Nat.le_of_ble_eq_true rfl) rfl ?_
    refine at_aload_n C 2 dX11_claimsExceedBounds_33 rfl rfl ?_
    refine at_getr (k' := 29) C 29 fw_11_29 kd0 rfl (Nat.le_of_ble_eq_true rfl) rfl rfl dX11_claimsExceedBounds_34 ?_
    refine at_iload_n C 1 dX11_claimsExceedBounds_37 rfl rfl ?_
    refine at_iload_n C 0 dX11_claimsExceedBounds_38 rfl rfl ?_
    obtain ⟨q3, eq3, hF⟩ := bind_some' hF
    refine at_callV (ci := 5) C (c_X5_takenOn l g N 29 (σ.1 30 v1) (σ.1 31 v1) σ q3 kd29 (ok _ _) (ok _ _) ok eq3) kv_X5_takenOn w874 kd29 rfl rfl rfl rfl (Nat.le_of_ble_eq_true rfl) ⟨rfl, rfl, (Nat.le_of_ble_eq_true rfl), (Nat.le_of_ble_eq_true rfl)⟩ dX11_claimsExceedBounds_39 (fun tq3 okq3 => ?_)
    refine at_aload_n C 2 dX11_claimsExceedBounds_42 rfl rfl ?_
    refine at_getr (k' := 55) C 55 fw_11_64 kd0 rfl (Nat.le_of_ble_eq_true rfl) rfl rfl dX11_claimsExceedBounds_43 ?_
    refine at_getr (k' := 56) C 1 fw_11_283 kd55 rfl (Nat.le_of_ble_eq_true rfl) rfl rfl dX11_claimsExceedBounds_46 ?_
    refine at_iload_n C 1 dX11_claimsExceedBounds_49 rfl rfl ?_
    refine at_bipush C dX11_claimsExceedBounds_50 (by decide) ?_
    refine at_imul C dX11_claimsExceedBounds_52 ?_
    refine at_iload_n C 0 dX11_claimsExceedBounds_53 rfl rfl ?_
    refine at_iadd C dX11_claimsExceedBounds_54 ?_
    obtain ⟨b4, hF⟩ := inb_some hF
    refine at_iaload C kd56 b4 dX11_claimsExceedBounds_55 ?_
    refine at_icmp_le C tq3 (ok _ _) dX11_claimsExceedBounds_56 rfl (fun c5 => ?_) (fun c5 => ?_)
    · have hF := (if_pos c5).symm.trans hF
      refine at_iinc C 3 dX11_claimsExceedBounds_61 rfl (Nat.le_of_ble_eq_true rfl) rfl ?_
      refine at_goto C dX11_claimsExceedBounds_64 rfl ?_
      refine at_sub [3, 0] rfl ?_
      exact ih2 _ hF (ja_R _ _)
    · have hF := (if_neg c5).symm.trans hF
      refine at_iconst C dX11_claimsExceedBounds_59 ?_
      obtain rfl := Option.some.inj hF
      exact at_zret C hr hlk (Or.inr rfl) ok dX11_claimsExceedBounds_60
abbrev rm_X11_own : Room := { frames := 5, cells := 0, slots := 0, locals := 130 }
def F_X11_own (N : Nat) (v1 : Int) (v2 : Int) (v3 : Int) (v4 : Int) (σ : Sto) : Option (Int × Sto) :=
  (F_X11_isPair N v1 v2 σ).bind (fun q1 => if q1 = 0 then (some ((-1), σ)) else (if v2 < v1 then (some ((-1), σ)) else ((F_X11_isDay N v4 σ).bind (fun q4 => if q4 = 0 then (some ((-1), σ)) else (if v3 < 0 then (some ((-1), σ)) else (if v3 ≤ 100 then (asB (σ.1 0 1) (fun b8 => if (σ.1 (b8 + 8) 4) < 24 then (asB (σ.1 0 1) (fun b10 => (F_X7_add N (b10 + 8) v1 v2 v3 v4 σ).bind (fun q11 => (F_X11_forgetNet N q11).bind (fun q12 => (F_X11_refreshNet N q12).bind (fun q13 => (F_X11_claimsExceedBounds N q13).bind (fun q14 => if q14 = 0 then ((F_X2_push N 3 0 0 0 0 q13).bind (fun q16 => asB (q16.1 0 1) (fun b17 => some ((q16.1 (b17 + 8) 4), q16)))) else (asB (q13.1 0 1) (fun b18 => (F_X7_dropLast N (b18 + 8) q13).bind (fun q19 => (F_X11_forgetNet N q19).bind (fun q20 => some ((-3), q20))))))))))) else (some ((-2), σ)))) else (some ((-1), σ))))))))
set_option maxHeartbeats 4000000 in
set_option maxRecDepth 100000 in
theorem c_X11_own (l : Launch) (g : Geo) (N : Nat) (v1 : Int) (v2 : Int) (v3 : Int) (v4 : Int) (σ : Sto) (res : Int × Sto) (h1 : inR v1) (h2 : inR v2) (h3 : inR v3) (h4 : inR v4) (ok : OK σ) (hF : F_X11_own N v1 v2 v3 v4 σ = some res) : MtI l g yX11_own cX11_own 5 (some .int) rm_X11_own [vr g 0, vi v1, vi v2, vi v3, vi v4] σ res.1 res.2 inR := by
  intro sz
  refine Met.ofAt (own := RX11) (QQ := fun z => QI g z res.1 res.2 inR) (by decide +kernel) (Nat.le_of_ble_eq_true rfl) rfl ?_
  intro p e s m args below meth c C hr hlk
  show At p l e rm_X11_own s m args below meth c g 5 (MQ below (QI g s.heap.size res.1 res.2 inR) args s 0 0 (AA g s.heap.size)) 0 [(0, vr g 0), (1, vi v1), (2, vi v2), (3, vi v3), (4, vi v4)] [] σ
  unfold F_X11_own at hF
  refine at_aload_n C 0 dX11_own_0 rfl rfl ?_
  refine at_iload_n C 1 dX11_own_1 rfl rfl ?_
  refine at_iload_n C 2 dX11_own_2 rfl rfl ?_
  obtain ⟨q1, eq1, hF⟩ := bind_some' hF
  refine at_callV (ci := 11) C (c_X11_isPair l g N v1 v2 σ q1 h1 h2 ok eq1) kv_X11_isPair w721 kd0 rfl rfl rfl rfl (Nat.le_of_ble_eq_true rfl) ⟨rfl, rfl, (Nat.le_of_ble_eq_true rfl), (Nat.le_of_ble_eq_true rfl)⟩ dX11_own_3 (fun tq1 okq1 => ?_)
  refine at_if_eq C (isB.r tq1) dX11_own_6 rfl (fun c2 => ?_) (fun c2 => ?_)
  · have hF := (if_pos c2).symm.trans hF
    refine at_iconst C dX11_own_32 ?_
    obtain rfl := Option.some.inj hF
    exact at_iret C hr hlk ⟨by decide, by decide⟩ ok dX11_own_33
  · have hF := (if_neg c2).symm.trans hF
    refine at_iload_n C 1 dX11_own_9 rfl rfl ?_
    refine at_iload_n C 2 dX11_own_10 rfl rfl ?_
    refine at_icmp_gt C h1 h2 dX11_own_11 rfl (fun c3 => ?_) (fun c3 => ?_)
    · have hF := (if_pos c3).symm.trans hF
      refine at_iconst C dX11_own_32 ?_
      obtain rfl := Option.some.inj hF
      exact at_iret C hr hlk ⟨by decide, by decide⟩ ok dX11_own_33
    · have hF := (if_neg c3).symm.trans hF
      refine at_iload C 4 dX11_own_14 rfl ?_
      obtain ⟨q4, eq4, hF⟩ := bind_some' hF
      refine at_callS C (c_X11_isDay l g N v4 σ q4 h4 ok eq4) ks_X11_isDay w733 rfl rfl (Nat.le_of_ble_eq_true rfl) ⟨rfl, rfl, (Nat.le_of_ble_eq_true rfl), (Nat.le_of_ble_eq_true rfl)⟩ dX11_own_16 (fun tq4 okq4 => ?_)
      refine at_if_eq C (isB.r tq4) dX11_own_19 rfl (fun c5 => ?_) (fun c5 => ?_)
      · have hF := (if_pos c5).symm.trans hF
        refine at_iconst C dX11_own_32 ?_
        obtain rfl := Option.some.inj hF
        exact at_iret C hr hlk ⟨by decide, by decide⟩ ok dX11_own_33
      · have hF := (if_neg c5).symm.trans hF
        refine at_iload_n C 3 dX11_own_22 rfl rfl ?_
        refine at_if_lt C h3 dX11_own_23 rfl (fun c6 => ?_) (fun c6 => ?_)
        · have hF := (if_pos c6).symm.trans hF
          refine at_iconst C dX11_own_32 ?_
          obtain rfl := Option.some.inj hF
          exact at_iret C hr hlk ⟨by decide, by decide⟩ ok dX11_own_33
        · have hF := (if_neg c6).symm.trans hF
          refine at_iload_n C 3 dX11_own_26 rfl rfl ?_
          refine at_bipush C dX11_own_27 (by decide) ?_
          refine at_icmp_le C h3 ⟨by decide, by decide⟩ dX11_own_29 rfl (fun c7 => ?_) (fun c7 => ?_)
          · have hF := (if_pos c7).symm.trans hF
            refine at_aload_n C 0 dX11_own_34 rfl rfl ?_
            obtain ⟨b8, eb8, kb8, hF⟩ := asB_some hF
            refine at_getd (jz := 1) (k2 := b8) C fw_11_19 kd0 rfl (Nat.le_of_ble_eq_true rfl) rfl rfl eb8 dX11_own_35 ?_
            refine at_getr C 8 fw_11_250 kb8 rfl (Nat.le_of_ble_eq_true rfl) rfl rfl dX11_own_38 ?_
            refine at_geti (jz := 4) C fw_11_253 (kf0_7 kb8) rfl (Nat.le_of_ble_eq_true rfl) rfl rfl dX11_own_41 ?_
            refine at_bipush C dX11_own_44 (by decide) ?_
            refine at_icmp_lt C (ok _ _) ⟨by decide, by decide⟩ dX11_own_46 rfl (fun c9 => ?_) (fun c9 => ?_)
            · have hF := (if_pos c9).symm.trans hF
              refine at_aload_n C 0 dX11_own_52 rfl rfl ?_
              obtain ⟨b10, eb10, kb10, hF⟩ := asB_some hF
              refine at_getd (jz := 1) (k2 := b10) C fw_11_19 kd0 rfl (Nat.le_of_ble_eq_true rfl) rfl rfl eb10 dX11_own_53 ?_
              refine at_getr C 8 fw_11_250 kb10 rfl (Nat.le_of_ble_eq_true rfl) rfl rfl dX11_own_56 ?_
              refine at_iload_n C 1 dX11_own_59 rfl rfl ?_
              refine at_iload_n C 2 dX11_own_60 rfl rfl ?_
              refine at_iload_n C 3 dX11_own_61 rfl rfl ?_
              refine at_iload C 4 dX11_own_62 rfl ?_
              obtain ⟨q11, eq11, hF⟩ := bind_some' hF
              refine at_callVv (ci := 7) C (c_X7_add l g N (b10 + 8) v1 v2 v3 v4 σ q11 (kf0_7 kb10) h1 h2 h3 h4 ok eq11) kv_X7_add w869 (kf0_7 kb10) rfl rfl rfl rfl (Nat.le_of_ble_eq_true rfl) ⟨rfl, rfl, (Nat.le_of_ble_eq_true rfl), (Nat.le_of_ble_eq_true rfl)⟩ dX11_own_64 (fun okq11 => ?_)
              refine at_aload_n C 0 dX11_own_67 rfl rfl ?_
              obtain ⟨q12, eq12, hF⟩ := bind_some' hF
              refine at_callVv (ci := 11) C (c_X11_forgetNet l g N  q11 q12  okq11 eq12) kv_X11_forgetNet w684 kd0 rfl rfl rfl rfl (Nat.le_of_ble_eq_true rfl) ⟨rfl, rfl, (Nat.le_of_ble_eq_true rfl), (Nat.le_of_ble_eq_true rfl)⟩ dX11_own_68 (fun okq12 => ?_)
              refine at_aload_n C 0 dX11_own_71 rfl rfl ?_
              obtain ⟨q13, eq13, hF⟩ := bind_some' hF
              refine at_callVv (ci := 11) C (c_X11_refreshNet l g N  q12 q13  okq12 eq13) kv_X11_refreshNet w796 kd0 rfl rfl rfl rfl (Nat.le_of_ble_eq_true rfl) ⟨rfl, rfl, (Nat.le_of_ble_eq_true rfl), (Nat.le_of_ble_eq_true rfl)⟩ dX11_own_72 (fun okq13 => ?_)
              refine at_aload_n C 0 dX11_own_75 rfl rfl ?_
              obtain ⟨q14, eq14, hF⟩ := bind_some' hF
              refine at_callV (ci := 11) C (c_X11_claimsExceedBounds l g N  q13 q14  okq13 eq14) kv_X11_claimsExceedBounds w870 kd0 rfl rfl rfl rfl (Nat.le_of_ble_eq_true rfl) ⟨rfl, rfl, (Nat.le_of_ble_eq_true rfl), (Nat.le_of_ble_eq_true rfl)⟩ dX11_own_76 (fun tq14 okq14 => ?_)
              refine at_if_eq C (isB.r tq14) dX11_own_79 rfl (fun c15 => ?_) (fun c15 => ?_)
              · have hF := (if_pos c15).symm.trans hF
                refine at_aload_n C 0 dX11_own_99 rfl rfl ?_
                refine at_getr (k' := 33) C 33 fw_11_36 kd0 rfl (Nat.le_of_ble_eq_true rfl) rfl rfl dX11_own_100 ?_
                refine at_iconst C dX11_own_103 ?_
                refine at_iconst C dX11_own_104 ?_
                refine at_iconst C dX11_own_105 ?_
                refine at_iconst C dX11_own_106 ?_
                refine at_iconst C dX11_own_107 ?_
                obtain ⟨q16, eq16, hF⟩ := bind_some' hF
                refine at_callVv (ci := 2) C (c_X2_push l g N 3 0 0 0 0 q13 q16 ⟨by decide, by decide⟩ (isB.r (Or.inl rfl)) (isB.r (Or.inl rfl)) (isB.r (Or.inl rfl)) (isB.r (Or.inl rfl)) okq13 eq16) kv_X2_push w883 kd33 rfl rfl rfl rfl (Nat.le_of_ble_eq_true rfl) ⟨rfl, rfl, (Nat.le_of_ble_eq_true rfl), (Nat.le_of_ble_eq_true rfl)⟩ dX11_own_108 (fun okq16 => ?_)
                refine at_aload_n C 0 dX11_own_111 rfl rfl ?_
                obtain ⟨b17, eb17, kb17, hF⟩ := asB_some hF
                refine at_getd (jz := 1) (k2 := b17) C fw_11_19 kd0 rfl (Nat.le_of_ble_eq_true rfl) rfl rfl eb17 dX11_own_112 ?_
                refine at_getr C 8 fw_11_250 kb17 rfl (Nat.le_of_ble_eq_true rfl) rfl rfl dX11_own_115 ?_
                refine at_geti (jz := 4) C fw_11_253 (kf0_7 kb17) rfl (Nat.le_of_ble_eq_true rfl) rfl rfl dX11_own_118 ?_
                obtain rfl := Option.some.inj hF
                exact at_iret C hr hlk (okq16 _ _) okq16 dX11_own_121
              · have hF := (if_neg c15).symm.trans hF
                refine at_aload_n C 0 dX11_own_82 rfl rfl ?_
                obtain ⟨b18, eb18, kb18, hF⟩ := asB_some hF
                refine at_getd (jz := 1) (k2 := b18) C fw_11_19 kd0 rfl (Nat.le_of_ble_eq_true rfl) rfl rfl eb18 dX11_own_83 ?_
                refine at_getr C 8 fw_11_250 kb18 rfl (Nat.le_of_ble_eq_true rfl) rfl rfl dX11_own_86 ?_
                obtain ⟨q19, eq19, hF⟩ := bind_some' hF
                refine at_callVv (ci := 7) C (c_X7_dropLast l g N (b18 + 8) q13 q19 (kf0_7 kb18) okq13 eq19) kv_X7_dropLast w878 (kf0_7 kb18) rfl rfl rfl rfl (Nat.le_of_ble_eq_true rfl) ⟨rfl, rfl, (Nat.le_of_ble_eq_true rfl), (Nat.le_of_ble_eq_true rfl)⟩ dX11_own_89 (fun okq19 => ?_)
                refine at_aload_n C 0 dX11_own_92 rfl rfl ?_
                obtain ⟨q20, eq20, hF⟩ := bind_some' hF
                refine at_callVv (ci := 11) C (c_X11_forgetNet l g N  q19 q20  okq19 eq20) kv_X11_forgetNet w684 kd0 rfl rfl rfl rfl (Nat.le_of_ble_eq_true rfl) ⟨rfl, rfl, (Nat.le_of_ble_eq_true rfl), (Nat.le_of_ble_eq_true rfl)⟩ dX11_own_93 (fun okq20 => ?_)
                refine at_bipush C dX11_own_96 (by decide) ?_
                obtain rfl := Option.some.inj hF
                exact at_iret C hr hlk ⟨by decide, by decide⟩ okq20 dX11_own_98
            · have hF := (if_neg c9).symm.trans hF
              refine at_bipush C dX11_own_49 (by decide) ?_
              obtain rfl := Option.some.inj hF
              exact at_iret C hr hlk ⟨by decide, by decide⟩ ok dX11_own_51
          · have hF := (if_neg c7).symm.trans hF
            refine at_iconst C dX11_own_32 ?_
            obtain rfl := Option.some.inj hF
            exact at_iret C hr hlk ⟨by decide, by decide⟩ ok dX11_own_33
