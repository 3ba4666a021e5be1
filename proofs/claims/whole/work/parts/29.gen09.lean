abbrev rm_X12_claims : Room := { frames := 1, cells := 0, slots := 0, locals := 22 }
def F_X12_claims (N : Nat) (v1 : Int) (v2 : Int) (v3 : Int) (σ : Sto) : Option (Sto) :=
  (F_X12_of N 0 σ).bind (fun q1 => (F_X12_lay N (ja 1 (jm 3 q1)) v1 σ).bind (fun q2 => (F_X12_lay N (ja (ja 1 (jm 3 q1)) 1) v2 q2).bind (fun q3 => (F_X12_lay N (ja (ja 1 (jm 3 q1)) 2) v3 q3).bind (fun q4 => (F_X12_of N 0 q4).bind (fun q5 => (F_X12_lay N 0 (ja q5 1) q4).bind (fun q6 => some q6))))))
set_option maxHeartbeats 4000000 in
set_option maxRecDepth 100000 in
theorem c_X12_claims (l : Launch) (g : Geo) (N : Nat) (v1 : Int) (v2 : Int) (v3 : Int) (σ : Sto) (res : Sto) (h1 : inR v1) (h2 : inR v2) (h3 : inR v3) (ok : OK σ) (hF : F_X12_claims N v1 v2 v3 σ = some res) : MtV l g yX12_claims cX12_claims 5 none rm_X12_claims [vr g 94, vi v1, vi v2, vi v3] σ res := by
  intro sz
  refine Met.ofAt (own := RX12) (QQ := fun z => QV g z res) (by decide +kernel) (Nat.le_of_ble_eq_true rfl) rfl ?_
  intro p e s m args below meth c C hr hlk
  show At p l e rm_X12_claims s m args below meth c 0 0 g 5 (MQ below (QV g s.heap.size res) args s 0 0 (AA g s.heap.size)) 0 [(0, vr g 94), (1, vi v1), (2, vi v2), (3, vi v3)] [] σ
  unfold F_X12_claims at hF
  refine at_iconst (pc := 0) C dX12_claims_0 ?_
  refine at_iconst (pc := 1) C dX12_claims_1 ?_
  refine at_aload_n (pc := 2) C 0 dX12_claims_2 rfl rfl ?_
  refine at_iconst (pc := 3) C dX12_claims_3 ?_
  obtain ⟨q1, eq1, hF⟩ := bind_some' hF
  refine at_callV (pc := 4) (ci := 12) C (c_X12_of l g N 0 σ q1 (isB.r (Or.inl rfl)) ok eq1) kv_X12_of w1565 kd94 rfl rfl rfl rfl (Nat.le_of_ble_eq_true rfl) ⟨rfl, rfl, (Nat.le_of_ble_eq_true rfl), (Nat.le_of_ble_eq_true rfl)⟩ dX12_claims_4 (fun tq1 okq1 => ?_)
  refine at_imul (pc := 7) C dX12_claims_7 ?_
  refine at_iadd (pc := 8) C dX12_claims_8 ?_
  refine at_istore (pc := 9) (lv' := [(4, vi (ja 1 (jm 3 q1))), (0, vr g 94), (1, vi v1), (2, vi v2), (3, vi v3)]) C dX12_claims_9 (Nat.le_of_ble_eq_true rfl) rfl ?_
  refine at_aload_n (pc := 11) C 1 dX12_claims_11 rfl rfl ?_
  refine at_iload (pc := 12) C 0 dX12_claims_12 rfl ?_
  refine at_iload_n (pc := 14) C 2 dX12_claims_14 rfl rfl ?_
  obtain ⟨q2, eq2, hF⟩ := bind_some' hF
  refine at_callVv (pc := 15) (ci := 12) C (c_X12_lay l g N (ja 1 (jm 3 q1)) v1 σ q2 (ja_R 1 (jm 3 q1)) h1 ok eq2) kv_X12_lay w1319 kd94 rfl rfl rfl rfl (Nat.le_of_ble_eq_true rfl) ⟨rfl, rfl, (Nat.le_of_ble_eq_true rfl), (Nat.le_of_ble_eq_true rfl)⟩ dX12_claims_15 (fun okq2 => ?_)
  refine at_aload_n (pc := 18) C 1 dX12_claims_18 rfl rfl ?_
  refine at_iload (pc := 19) C 0 dX12_claims_19 rfl ?_
  refine at_iconst (pc := 21) C dX12_claims_21 ?_
  refine at_iadd (pc := 22) C dX12_claims_22 ?_
  refine at_iload_n (pc := 23) C 3 dX12_claims_23 rfl rfl ?_
  obtain ⟨q3, eq3, hF⟩ := bind_some' hF
  refine at_callVv (pc := 24) (ci := 12) C (c_X12_lay l g N (ja (ja 1 (jm 3 q1)) 1) v2 q2 q3 (ja_R (ja 1 (jm 3 q1)) 1) h2 okq2 eq3) kv_X12_lay w1319 kd94 rfl rfl rfl rfl (Nat.le_of_ble_eq_true rfl) ⟨rfl, rfl, (Nat.le_of_ble_eq_true rfl), (Nat.le_of_ble_eq_true rfl)⟩ dX12_claims_24 (fun okq3 => ?_)
  refine at_aload_n (pc := 27) C 1 dX12_claims_27 rfl rfl ?_
  refine at_iload (pc := 28) C 0 dX12_claims_28 rfl ?_
  refine at_iconst (pc := 30) C dX12_claims_30 ?_
  refine at_iadd (pc := 31) C dX12_claims_31 ?_
  refine at_iload_n (pc := 32) C 4 dX12_claims_32 rfl rfl ?_
  obtain ⟨q4, eq4, hF⟩ := bind_some' hF
  refine at_callVv (pc := 33) (ci := 12) C (c_X12_lay l g N (ja (ja 1 (jm 3 q1)) 2) v3 q3 q4 (ja_R (ja 1 (jm 3 q1)) 2) h3 okq3 eq4) kv_X12_lay w1319 kd94 rfl rfl rfl rfl (Nat.le_of_ble_eq_true rfl) ⟨rfl, rfl, (Nat.le_of_ble_eq_true rfl), (Nat.le_of_ble_eq_true rfl)⟩ dX12_claims_33 (fun okq4 => ?_)
  refine at_aload_n (pc := 36) C 1 dX12_claims_36 rfl rfl ?_
  refine at_iconst (pc := 37) C dX12_claims_37 ?_
  refine at_aload_n (pc := 38) C 1 dX12_claims_38 rfl rfl ?_
  refine at_iconst (pc := 39) C dX12_claims_39 ?_
  obtain ⟨q5, eq5, hF⟩ := bind_some' hF
  refine at_callV (pc := 40) (ci := 12) C (c_X12_of l g N 0 q4 q5 (isB.r (Or.inl rfl)) okq4 eq5) kv_X12_of w1565 kd94 rfl rfl rfl rfl (Nat.le_of_ble_eq_true rfl) ⟨rfl, rfl, (Nat.le_of_ble_eq_true rfl), (Nat.le_of_ble_eq_true rfl)⟩ dX12_claims_40 (fun tq5 okq5 => ?_)
  refine at_iconst (pc := 43) C dX12_claims_43 ?_
  refine at_iadd (pc := 44) C dX12_claims_44 ?_
  obtain ⟨q6, eq6, hF⟩ := bind_some' hF
  refine at_callVv (pc := 45) (ci := 12) C (c_X12_lay l g N 0 (ja q5 1) q4 q6 (isB.r (Or.inl rfl)) (ja_R q5 1) okq4 eq6) kv_X12_lay w1319 kd94 rfl rfl rfl rfl (Nat.le_of_ble_eq_true rfl) ⟨rfl, rfl, (Nat.le_of_ble_eq_true rfl), (Nat.le_of_ble_eq_true rfl)⟩ dX12_claims_45 (fun okq6 => ?_)
  obtain rfl := Option.some.inj hF
  exact at_vret (pc := 48) C hr hlk okq6 dX12_claims_48
abbrev rm_X12_claim : Room := { frames := 4, cells := 0, slots := 0, locals := 102 }
def F_X12_claim (N : Nat) (v1 : Int) (v2 : Int) (v3 : Int) (σ : Sto) : Option (Int × Sto) :=
  (F_X12_isLink N v1 v2 (upI σ 94 2 0)).bind (fun q1 => if q1 = 0 then (some ((-1), (upI σ 94 2 0))) else ((F_X12_isIn N v3 1 99999 (upI σ 94 2 0)).bind (fun q3 => if q3 = 0 then (some ((-1), (upI σ 94 2 0))) else ((F_X12_of N 0 (upI σ 94 2 0)).bind (fun q5 => if q5 = 30 then (some ((-2), (upI σ 94 2 0))) else (inb 0 8 ((F_X12_laysStretches N ((upI σ 94 2 0).1 100 0) (upI σ 94 2 0)).bind (fun q8 => (F_X12_canClaim N v1 v2 v3 q8).bind (fun q9 => if q9 = 0 then (some ((-3), q8)) else ((F_X12_canUndo N q8).bind (fun q11 => (F_X12_claims N v1 v2 v3 q11).bind (fun q12 => (F_X12_of N 0 q12).bind (fun q13 => some ((js q13 1), q12))))))))))))))
set_option maxHeartbeats 4000000 in
set_option maxRecDepth 100000 in
theorem c_X12_claim (l : Launch) (g : Geo) (N : Nat) (v1 : Int) (v2 : Int) (v3 : Int) (σ : Sto) (res : Int × Sto) (h1 : inR v1) (h2 : inR v2) (h3 : inR v3) (ok : OK σ) (hF : F_X12_claim N v1 v2 v3 σ = some res) : MtI l g yX12_claim cX12_claim 4 (some .int) rm_X12_claim [vr g 94, vi v1, vi v2, vi v3] σ res.1 res.2 inR := by
  intro sz
  refine Met.ofAt (own := RX12) (QQ := fun z => QI g z res.1 res.2 inR) (by decide +kernel) (Nat.le_of_ble_eq_true rfl) rfl ?_
  intro p e s m args below meth c C hr hlk
  show At p l e rm_X12_claim s m args below meth c 0 0 g 4 (MQ below (QI g s.heap.size res.1 res.2 inR) args s 0 0 (AA g s.heap.size)) 0 [(0, vr g 94), (1, vi v1), (2, vi v2), (3, vi v3)] [] σ
  unfold F_X12_claim at hF
  refine at_aload_n (pc := 0) C 0 dX12_claim_0 rfl rfl ?_
  refine at_iconst (pc := 1) C dX12_claim_1 ?_
  refine at_puti (pc := 2) (jz := 2) C fu_12_81 kd94 rfl (Nat.le_of_ble_eq_true rfl) rfl rfl dX12_claim_2 ?_
  refine at_aload_n (pc := 5) C 0 dX12_claim_5 rfl rfl ?_
  refine at_iload_n (pc := 6) C 1 dX12_claim_6 rfl rfl ?_
  refine at_iload_n (pc := 7) C 2 dX12_claim_7 rfl rfl ?_
  obtain ⟨q1, eq1, hF⟩ := bind_some' hF
  refine at_callV (pc := 8) (ci := 12) C (c_X12_isLink l g N v1 v2 (upI σ 94 2 0) q1 h1 h2 (OK_up (k := 94) (j := 2) ok (isB.r (Or.inl rfl))) eq1) kv_X12_isLink w1577 kd94 rfl rfl rfl rfl (Nat.le_of_ble_eq_true rfl) ⟨rfl, rfl, (Nat.le_of_ble_eq_true rfl), (Nat.le_of_ble_eq_true rfl)⟩ dX12_claim_8 (fun tq1 okq1 => ?_)
  refine at_if_eq (pc := 11) (tgt := 24) C (isB.r tq1) dX12_claim_11 rfl (fun c2 => ?_) (fun c2 => ?_)
  · have hF := (if_pos c2).symm.trans hF
    refine at_iconst (pc := 24) C dX12_claim_24 ?_
    obtain rfl := Option.some.inj hF
    exact at_iret (pc := 25) C hr hlk (show inR (-1) from ⟨by decide, by decide⟩) (OK_up (k := 94) (j := 2) ok (isB.r (Or.inl rfl))) dX12_claim_25
  · have hF := (if_neg c2).symm.trans hF
    refine at_iload_n (pc := 14) C 3 dX12_claim_14 rfl rfl ?_
    refine at_iconst (pc := 15) C dX12_claim_15 ?_
    refine at_ldc (pc := 16) (n := 99999) C dX12_claim_16 w1500 ?_
    obtain ⟨q3, eq3, hF⟩ := bind_some' hF
    refine at_callS (pc := 18) C (c_X12_isIn l g N v3 1 99999 (upI σ 94 2 0) q3 h3 (isB.r (Or.inr rfl)) (show inR 99999 from ⟨by decide, by decide⟩) (OK_up (k := 94) (j := 2) ok (isB.r (Or.inl rfl))) eq3) ks_X12_isIn w1525 rfl rfl (Nat.le_of_ble_eq_true rfl) ⟨rfl, rfl, (Nat.le_of_ble_eq_true rfl), (Nat.le_of_ble_eq_true rfl)⟩ dX12_claim_18 (fun tq3 okq3 => ?_)
    refine at_if_ne (pc := 21) (tgt := 26) C (isB.r tq3) dX12_claim_21 rfl (fun c4 => ?_) (fun c4 => ?_)
    · have hF := (if_neg c4).symm.trans hF
      refine at_aload_n (pc := 26) C 0 dX12_claim_26 rfl rfl ?_
      refine at_iconst (pc := 27) C dX12_claim_27 ?_
      obtain ⟨q5, eq5, hF⟩ := bind_some' hF
      refine at_callV (pc := 28) (ci := 12) C (c_X12_of l g N 0 (upI σ 94 2 0) q5 (isB.r (Or.inl rfl)) (OK_up (k := 94) (j := 2) ok (isB.r (Or.inl rfl))) eq5) kv_X12_of w1565 kd94 rfl rfl rfl rfl (Nat.le_of_ble_eq_true rfl) ⟨rfl, rfl, (Nat.le_of_ble_eq_true rfl), (Nat.le_of_ble_eq_true rfl)⟩ dX12_claim_28 (fun tq5 okq5 => ?_)
      refine at_bipush (pc := 31) C dX12_claim_31 (by decide) ?_
      refine at_icmp_ne (pc := 33) (tgt := 39) C tq5 (show inR 30 from ⟨by decide, by decide⟩) dX12_claim_33 rfl (fun c6 => ?_) (fun c6 => ?_)
      · have hF := (if_neg c6).symm.trans hF
        refine at_aload_n (pc := 39) C 0 dX12_claim_39 rfl rfl ?_
        refine at_aload_n (pc := 40) C 0 dX12_claim_40 rfl rfl ?_
        refine at_getr (pc := 41) (k' := 100) C 6 fw_12_29 kd94 rfl (Nat.le_of_ble_eq_true rfl) rfl rfl dX12_claim_41 ?_
        refine at_iconst (pc := 44) C dX12_claim_44 ?_
        obtain ⟨b7, hF⟩ := inb_some hF
        refine at_iaload (pc := 45) C kd100 b7 dX12_claim_45 ?_
        obtain ⟨q8, eq8, hF⟩ := bind_some' hF
        refine at_callVv (pc := 46) (ci := 12) C (c_X12_laysStretches l g N ((upI σ 94 2 0).1 100 0) (upI σ 94 2 0) q8 ((OK_up (k := 94) (j := 2) ok (isB.r (Or.inl rfl))) 100 0) (OK_up (k := 94) (j := 2) ok (isB.r (Or.inl rfl))) eq8) kv_X12_laysStretches w1605 kd94 rfl rfl rfl rfl (Nat.le_of_ble_eq_true rfl) ⟨rfl, rfl, (Nat.le_of_ble_eq_true rfl), (Nat.le_of_ble_eq_true rfl)⟩ dX12_claim_46 (fun okq8 => ?_)
        refine at_aload_n (pc := 49) C 0 dX12_claim_49 rfl rfl ?_
        refine at_iload_n (pc := 50) C 1 dX12_claim_50 rfl rfl ?_
        refine at_iload_n (pc := 51) C 2 dX12_claim_51 rfl rfl ?_
        refine at_iload_n (pc := 52) C 3 dX12_claim_52 rfl rfl ?_
        obtain ⟨q9, eq9, hF⟩ := bind_some' hF
        refine at_callV (pc := 53) (ci := 12) C (c_X12_canClaim l g N v1 v2 v3 q8 q9 h1 h2 h3 okq8 eq9) kv_X12_canClaim w1626 kd94 rfl rfl rfl rfl (Nat.le_of_ble_eq_true rfl) ⟨rfl, rfl, (Nat.le_of_ble_eq_true rfl), (Nat.le_of_ble_eq_true rfl)⟩ dX12_claim_53 (fun tq9 okq9 => ?_)
        refine at_if_ne (pc := 56) (tgt := 62) C (isB.r tq9) dX12_claim_56 rfl (fun c10 => ?_) (fun c10 => ?_)
        · have hF := (if_neg c10).symm.trans hF
          refine at_aload_n (pc := 62) C 0 dX12_claim_62 rfl rfl ?_
          obtain ⟨q11, eq11, hF⟩ := bind_some' hF
          refine at_callVv (pc := 63) (ci := 12) C (c_X12_canUndo l g N  q8 q11  okq8 eq11) kv_X12_canUndo w1654 kd94 rfl rfl rfl rfl (Nat.le_of_ble_eq_true rfl) ⟨rfl, rfl, (Nat.le_of_ble_eq_true rfl), (Nat.le_of_ble_eq_true rfl)⟩ dX12_claim_63 (fun okq11 => ?_)
          refine at_aload_n (pc := 66) C 0 dX12_claim_66 rfl rfl ?_
          refine at_iload_n (pc := 67) C 1 dX12_claim_67 rfl rfl ?_
          refine at_iload_n (pc := 68) C 2 dX12_claim_68 rfl rfl ?_
          refine at_iload_n (pc := 69) C 3 dX12_claim_69 rfl rfl ?_
          obtain ⟨q12, eq12, hF⟩ := bind_some' hF
          refine at_callVv (pc := 70) (ci := 12) C (c_X12_claims l g N v1 v2 v3 q11 q12 h1 h2 h3 okq11 eq12) kv_X12_claims w1658 kd94 rfl rfl rfl rfl (Nat.le_of_ble_eq_true rfl) ⟨rfl, rfl, (Nat.le_of_ble_eq_true rfl), (Nat.le_of_ble_eq_true rfl)⟩ dX12_claim_70 (fun okq12 => ?_)
          refine at_aload_n (pc := 73) C 0 dX12_claim_73 rfl rfl ?_
          refine at_iconst (pc := 74) C dX12_claim_74 ?_
          obtain ⟨q13, eq13, hF⟩ := bind_some' hF
          refine at_callV (pc := 75) (ci := 12) C (c_X12_of l g N 0 q12 q13 (isB.r (Or.inl rfl)) okq12 eq13) kv_X12_of w1565 kd94 rfl rfl rfl rfl (Nat.le_of_ble_eq_true rfl) ⟨rfl, rfl, (Nat.le_of_ble_eq_true rfl), (Nat.le_of_ble_eq_true rfl)⟩ dX12_claim_75 (fun tq13 okq13 => ?_)
          refine at_iconst (pc := 78) C dX12_claim_78 ?_
          refine at_isub (pc := 79) C dX12_claim_79 ?_
          obtain rfl := Option.some.inj hF
          exact at_iret (pc := 80) C hr hlk (js_R q13 1) okq12 dX12_claim_80
        · have hF := (if_pos c10).symm.trans hF
          refine at_bipush (pc := 59) C dX12_claim_59 (by decide) ?_
          obtain rfl := Option.some.inj hF
          exact at_iret (pc := 61) C hr hlk (show inR (-3) from ⟨by decide, by decide⟩) okq8 dX12_claim_61
      · have hF := (if_pos c6).symm.trans hF
        refine at_bipush (pc := 36) C dX12_claim_36 (by decide) ?_
        obtain rfl := Option.some.inj hF
        exact at_iret (pc := 38) C hr hlk (show inR (-2) from ⟨by decide, by decide⟩) (OK_up (k := 94) (j := 2) ok (isB.r (Or.inl rfl))) dX12_claim_38
    · have hF := (if_pos c4).symm.trans hF
      refine at_iconst (pc := 24) C dX12_claim_24 ?_
      obtain rfl := Option.some.inj hF
      exact at_iret (pc := 25) C hr hlk (show inR (-1) from ⟨by decide, by decide⟩) (OK_up (k := 94) (j := 2) ok (isB.r (Or.inl rfl))) dX12_claim_25
abbrev rm_X12_isClaim : Room := { frames := 1, cells := 0, slots := 0, locals := 21 }
def F_X12_isClaim_J17 (N : Nat)   (σ : Sto) : Option (Int) :=
  some 0
def F_X12_isClaim (N : Nat) (v1 : Int) (σ : Sto) : Option (Int) :=
  if v1 < 0 then (F_X12_isClaim_J17 N   σ) else ((F_X12_of N 0 σ).bind (fun q2 => if q2 ≤ v1 then (F_X12_isClaim_J17 N   σ) else (some 1)))
set_option maxHeartbeats 4000000 in
set_option maxRecDepth 100000 in
theorem c_X12_isClaim (l : Launch) (g : Geo) (N : Nat) (v1 : Int) (σ : Sto) (res : Int) (h1 : inR v1) (ok : OK σ) (hF : F_X12_isClaim N v1 σ = some res) : MtI l g yX12_isClaim cX12_isClaim 2 (some .boolean) rm_X12_isClaim [vr g 94, vi v1] σ res σ isB := by
  intro sz
  refine Met.ofAt (own := RX12) (QQ := fun z => QI g z res σ isB) (by decide +kernel) (Nat.le_of_ble_eq_true rfl) rfl ?_
  intro p e s m args below meth c C hr hlk
  show At p l e rm_X12_isClaim s m args below meth c 0 0 g 2 (MQ below (QI g s.heap.size res σ isB) args s 0 0 (AA g s.heap.size)) 0 [(0, vr g 94), (1, vi v1)] [] σ
  unfold F_X12_isClaim at hF
  have J17 : F_X12_isClaim_J17 N   σ = some res → At p l e rm_X12_isClaim s m args below meth c 0 0 g 2 (MQ below (QI g s.heap.size res σ isB) args s 0 0 (AA g s.heap.size)) 17 [] [] σ := by
    intro   hF
    unfold F_X12_isClaim_J17 at hF
    refine at_iconst (pc := 17) C dX12_isClaim_17 ?_
    obtain rfl := Option.some.inj hF
    exact at_zret (pc := 18) C hr hlk (Or.inl rfl) ok dX12_isClaim_18
  refine at_iload_n (pc := 0) C 1 dX12_isClaim_0 rfl rfl ?_
  refine at_if_lt (pc := 1) (tgt := 17) C h1 dX12_isClaim_1 rfl (fun c1 => ?_) (fun c1 => ?_)
  · have hF := (if_pos c1).symm.trans hF
    refine at_sub (lv' := []) [] rfl ?_
    exact J17  hF
  · have hF := (if_neg c1).symm.trans hF
    refine at_iload_n (pc := 4) C 1 dX12_isClaim_4 rfl rfl ?_
    refine at_aload_n (pc := 5) C 0 dX12_isClaim_5 rfl rfl ?_
    refine at_iconst (pc := 6) C dX12_isClaim_6 ?_
    obtain ⟨q2, eq2, hF⟩ := bind_some' hF
    refine at_callV (pc := 7) (ci := 12) C (c_X12_of l g N 0 σ q2 (isB.r (Or.inl rfl)) ok eq2) kv_X12_of w1565 kd94 rfl rfl rfl rfl (Nat.le_of_ble_eq_true rfl) ⟨rfl, rfl, (Nat.le_of_ble_eq_true rfl), (Nat.le_of_ble_eq_true rfl)⟩ dX12_isClaim_7 (fun tq2 okq2 => ?_)
    refine at_icmp_ge (pc := 10) (tgt := 17) C h1 tq2 dX12_isClaim_10 rfl (fun c3 => ?_) (fun c3 => ?_)
    · have hF := (if_pos c3).symm.trans hF
      refine at_sub (lv' := []) [] rfl ?_
      exact J17  hF
    · have hF := (if_neg c3).symm.trans hF
      refine at_iconst (pc := 13) C dX12_isClaim_13 ?_
      refine at_goto (pc := 14) (tgt := 18) C dX12_isClaim_14 rfl ?_
      obtain rfl := Option.some.inj hF
      exact at_zret (pc := 18) C hr hlk (Or.inr rfl) ok dX12_isClaim_18
abbrev rm_X12_withdraw : Room := { frames := 2, cells := 0, slots := 0, locals := 44 }
def F_X12_withdraw_B49 (N : Nat) (nx49 : (Int × Sto) → Option (Int × Sto)) (v2 : Int) (v3 : Int) (σ : Sto) : Option (Int × Sto) :=
  (F_X12_of N 0 σ).bind (fun q7 => if (ja 1 (jm 3 q7)) ≤ v3 then (some (v2, σ)) else ((F_X12_of N (ja v3 3) σ).bind (fun q9 => (F_X12_lay N v3 q9 σ).bind (fun q10 => nx49 ((ja v3 1), q10)))))
def F_X12_withdraw (N : Nat) (v1 : Int) (σ : Sto) : Option (Int × Sto) :=
  (F_X12_isClaim N v1 (upI σ 94 2 0)).bind (fun q1 => if q1 = 0 then (some ((-1), (upI σ 94 2 0))) else ((F_X12_canUndo N (upI σ 94 2 0)).bind (fun q3 => (F_X12_of N (ja (ja 1 (jm 3 v1)) 2) q3).bind (fun q4 => (F_X12_of N 0 q3).bind (fun q5 => (F_X12_lay N 0 (js q5 1) q3).bind (fun q6 => loopK (fun q nx49 => F_X12_withdraw_B49 N  nx49 q4 q.1 q.2) N ((ja 1 (jm 3 v1)), q6)))))))
set_option maxHeartbeats 4000000 in
set_option maxRecDepth 100000 in
theorem c_X12_withdraw (l : Launch) (g : Geo) (N : Nat) (v1 : Int) (σ : Sto) (res : Int × Sto) (h1 : inR v1) (ok : OK σ) (hF : F_X12_withdraw N v1 σ = some res) : MtI l g yX12_withdraw cX12_withdraw 4 (some .int) rm_X12_withdraw [vr g 94, vi v1] σ res.1 res.2 inR := by
  intro sz
  refine Met.ofAt (own := RX12) (QQ := fun z => QI g z res.1 res.2 inR) (by decide +kernel) (Nat.le_of_ble_eq_true rfl) rfl ?_
  intro p e s m args below meth c C hr hlk
  show At p l e rm_X12_withdraw s m args below meth c 0 0 g 4 (MQ below (QI g s.heap.size res.1 res.2 inR) args s 0 0 (AA g s.heap.size)) 0 [(0, vr g 94), (1, vi v1)] [] σ
  unfold F_X12_withdraw at hF
  refine at_aload_n (pc := 0) C 0 dX12_withdraw_0 rfl rfl ?_
  refine at_iconst (pc := 1) C dX12_withdraw_1 ?_
  refine at_puti (pc := 2) (jz := 2) C fu_12_81 kd94 rfl (Nat.le_of_ble_eq_true rfl) rfl rfl dX12_withdraw_2 ?_
  refine at_aload_n (pc := 5) C 0 dX12_withdraw_5 rfl rfl ?_
  refine at_iload_n (pc := 6) C 1 dX12_withdraw_6 rfl rfl ?_
  obtain ⟨q1, eq1, hF⟩ := bind_some' hF
  refine at_callV (pc := 7) (ci := 12) C (c_X12_isClaim l g N v1 (upI σ 94 2 0) q1 h1 (OK_up (k := 94) (j := 2) ok (isB.r (Or.inl rfl))) eq1) kv_X12_isClaim w1666 kd94 rfl rfl rfl rfl (Nat.le_of_ble_eq_true rfl) ⟨rfl, rfl, (Nat.le_of_ble_eq_true rfl), (Nat.le_of_ble_eq_true rfl)⟩ dX12_withdraw_7 (fun tq1 okq1 => ?_)
  refine at_if_ne (pc := 10) (tgt := 15) C (isB.r tq1) dX12_withdraw_10 rfl (fun c2 => ?_) (fun c2 => ?_)
  · have hF := (if_neg c2).symm.trans hF
    refine at_aload_n (pc := 15) C 0 dX12_withdraw_15 rfl rfl ?_
    obtain ⟨q3, eq3, hF⟩ := bind_some' hF
    refine at_callVv (pc := 16) (ci := 12) C (c_X12_canUndo l g N  (upI σ 94 2 0) q3  (OK_up (k := 94) (j := 2) ok (isB.r (Or.inl rfl))) eq3) kv_X12_canUndo w1654 kd94 rfl rfl rfl rfl (Nat.le_of_ble_eq_true rfl) ⟨rfl, rfl, (Nat.le_of_ble_eq_true rfl), (Nat.le_of_ble_eq_true rfl)⟩ dX12_withdraw_16 (fun okq3 => ?_)
    refine at_aload_n (pc := 19) C 0 dX12_withdraw_19 rfl rfl ?_
    refine at_iconst (pc := 20) C dX12_withdraw_20 ?_
    refine at_iconst (pc := 21) C dX12_withdraw_21 ?_
    refine at_iload_n (pc := 22) C 1 dX12_withdraw_22 rfl rfl ?_
    refine at_imul (pc := 23) C dX12_withdraw_23 ?_
    refine at_iadd (pc := 24) C dX12_withdraw_24 ?_
    refine at_iconst (pc := 25) C dX12_withdraw_25 ?_
    refine at_iadd (pc := 26) C dX12_withdraw_26 ?_
    obtain ⟨q4, eq4, hF⟩ := bind_some' hF
    refine at_callV (pc := 27) (ci := 12) C (c_X12_of l g N (ja (ja 1 (jm 3 v1)) 2) q3 q4 (ja_R (ja 1 (jm 3 v1)) 2) okq3 eq4) kv_X12_of w1565 kd94 rfl rfl rfl rfl (Nat.le_of_ble_eq_true rfl) ⟨rfl, rfl, (Nat.le_of_ble_eq_true rfl), (Nat.le_of_ble_eq_true rfl)⟩ dX12_withdraw_27 (fun tq4 okq4 => ?_)
    refine at_istore_n (pc := 30) (lv' := [(2, vi q4), (0, vr g 94), (1, vi v1)]) C dX12_withdraw_30 rfl (Nat.le_of_ble_eq_true rfl) rfl ?_
    refine at_aload_n (pc := 31) C 1 dX12_withdraw_31 rfl rfl ?_
    refine at_iconst (pc := 32) C dX12_withdraw_32 ?_
    refine at_aload_n (pc := 33) C 1 dX12_withdraw_33 rfl rfl ?_
    refine at_iconst (pc := 34) C dX12_withdraw_34 ?_
    obtain ⟨q5, eq5, hF⟩ := bind_some' hF
    refine at_callV (pc := 35) (ci := 12) C (c_X12_of l g N 0 q3 q5 (isB.r (Or.inl rfl)) okq3 eq5) kv_X12_of w1565 kd94 rfl rfl rfl rfl (Nat.le_of_ble_eq_true rfl) ⟨rfl, rfl, (Nat.le_of_ble_eq_true rfl), (Nat.le_of_ble_eq_true rfl)⟩ dX12_withdraw_35 (fun tq5 okq5 => ?_)
    refine at_iconst (pc := 38) C dX12_withdraw_38 ?_
    refine at_isub (pc := 39) C dX12_withdraw_39 ?_
    obtain ⟨q6, eq6, hF⟩ := bind_some' hF
    refine at_callVv (pc := 40) (ci := 12) C (c_X12_lay l g N 0 (js q5 1) q3 q6 (isB.r (Or.inl rfl)) (js_R q5 1) okq3 eq6) kv_X12_lay w1319 kd94 rfl rfl rfl rfl (Nat.le_of_ble_eq_true rfl) ⟨rfl, rfl, (Nat.le_of_ble_eq_true rfl), (Nat.le_of_ble_eq_true rfl)⟩ dX12_withdraw_40 (fun okq6 => ?_)
    refine at_iconst (pc := 43) C dX12_withdraw_43 ?_
    refine at_iconst (pc := 44) C dX12_withdraw_44 ?_
    refine at_iload_n (pc := 45) C 2 dX12_withdraw_45 rfl rfl ?_
    refine at_imul (pc := 46) C dX12_withdraw_46 ?_
    refine at_iadd (pc := 47) C dX12_withdraw_47 ?_
    refine at_istore_n (pc := 48) (lv' := [(3, vi (ja 1 (jm 3 v1))), (2, vi q4), (0, vr g 94), (1, vi v1)]) C dX12_withdraw_48 rfl (Nat.le_of_ble_eq_true rfl) rfl ?_
    have L49 : ∀ (v2 : Int) (v3 : Int) (σ : Sto), inR v2 → inR v3 → OK σ → loopK (fun q nx49 => F_X12_withdraw_B49 N  nx49 v2 q.1 q.2) N (v3, σ) = some res → At p l e rm_X12_withdraw s m args below meth c 0 0 g 4 (MQ below (QI g s.heap.size res.1 res.2 inR) args s 0 0 (AA g s.heap.size)) 49 [(0, vr g 94), (2, vi v2), (3, vi v3)] [] σ := by
      intro v2 v3 σ h2 h3 ok hF
      refine loopK_ind (res := res) (P := fun (q : Int × Sto) => inR q.1 → OK q.2 → At p l e rm_X12_withdraw s m args below meth c 0 0 g 4 (MQ below (QI g s.heap.size res.1 res.2 inR) args s 0 0 (AA g s.heap.size)) 49 [(0, vr g 94), (2, vi v2), (3, vi q.1)] [] q.2) ?_ N _ hF h3 ok
      intro nx49 q ih49 hF
      obtain ⟨v3, σ⟩ := q
      intro h3 ok
      have hF : F_X12_withdraw_B49 N  nx49 v2 v3 σ = some res := hF
      unfold F_X12_withdraw_B49 at hF
      refine at_iload_n (pc := 49) C 2 dX12_withdraw_49 rfl rfl ?_
      refine at_iconst (pc := 50) C dX12_withdraw_50 ?_
      refine at_iconst (pc := 51) C dX12_withdraw_51 ?_
      refine at_aload_n (pc := 52) C 0 dX12_withdraw_52 rfl rfl ?_
      refine at_iconst (pc := 53) C dX12_withdraw_53 ?_
      obtain ⟨q7, eq7, hF⟩ := bind_some' hF
      refine at_callV (pc := 54) (ci := 12) C (c_X12_of l g N 0 σ q7 (isB.r (Or.inl rfl)) ok eq7) kv_X12_of w1565 kd94 rfl rfl rfl rfl (Nat.le_of_ble_eq_true rfl) ⟨rfl, rfl, (Nat.le_of_ble_eq_true rfl), (Nat.le_of_ble_eq_true rfl)⟩ dX12_withdraw_54 (fun tq7 okq7 => ?_)
      refine at_imul (pc := 57) C dX12_withdraw_57 ?_
      refine at_iadd (pc := 58) C dX12_withdraw_58 ?_
      refine at_icmp_ge (pc := 59) (tgt := 80) C h3 (ja_R 1 (jm 3 q7)) dX12_withdraw_59 rfl (fun c8 => ?_) (fun c8 => ?_)
      · have hF := (if_pos c8).symm.trans hF
        refine at_iload_n (pc := 80) C 1 dX12_withdraw_80 rfl rfl ?_
        obtain rfl := Option.some.inj hF
        exact at_iret (pc := 81) C hr hlk h2 ok dX12_withdraw_81
      · have hF := (if_neg c8).symm.trans hF
        refine at_aload_n (pc := 62) C 0 dX12_withdraw_62 rfl rfl ?_
        refine at_iload_n (pc := 63) C 2 dX12_withdraw_63 rfl rfl ?_
        refine at_aload_n (pc := 64) C 0 dX12_withdraw_64 rfl rfl ?_
        refine at_iload_n (pc := 65) C 2 dX12_withdraw_65 rfl rfl ?_
        refine at_iconst (pc := 66) C dX12_withdraw_66 ?_
        refine at_iadd (pc := 67) C dX12_withdraw_67 ?_
        obtain ⟨q9, eq9, hF⟩ := bind_some' hF
        refine at_callV (pc := 68) (ci := 12) C (c_X12_of l g N (ja v3 3) σ q9 (ja_R v3 3) ok eq9) kv_X12_of w1565 kd94 rfl rfl rfl rfl (Nat.le_of_ble_eq_true rfl) ⟨rfl, rfl, (Nat.le_of_ble_eq_true rfl), (Nat.le_of_ble_eq_true rfl)⟩ dX12_withdraw_68 (fun tq9 okq9 => ?_)
        obtain ⟨q10, eq10, hF⟩ := bind_some' hF
        refine at_callVv (pc := 71) (ci := 12) C (c_X12_lay l g N v3 q9 σ q10 h3 tq9 ok eq10) kv_X12_lay w1319 kd94 rfl rfl rfl rfl (Nat.le_of_ble_eq_true rfl) ⟨rfl, rfl, (Nat.le_of_ble_eq_true rfl), (Nat.le_of_ble_eq_true rfl)⟩ dX12_withdraw_71 (fun okq10 => ?_)
        refine at_iinc (pc := 74) (lv' := [(3, vi (ja v3 1)), (0, vr g 94), (2, vi v2)]) C 2 dX12_withdraw_74 rfl (Nat.le_of_ble_eq_true rfl) rfl ?_
        refine at_goto (pc := 77) (tgt := 49) C dX12_withdraw_77 rfl ?_
        refine at_sub (lv' := [(0, vr g 94), (2, vi v2), (3, vi (ja v3 1))]) [1, 2, 0] rfl ?_
        exact ih49 _ hF (ja_R v3 1) okq10
    refine at_sub (lv' := [(0, vr g 94), (2, vi q4), (3, vi (ja 1 (jm 3 v1)))]) [2, 1, 0] rfl ?_
    exact L49 q4 (ja 1 (jm 3 v1)) q6 tq4 (ja_R 1 (jm 3 v1)) okq6 hF
  · have hF := (if_pos c2).symm.trans hF
    refine at_iconst (pc := 13) C dX12_withdraw_13 ?_
    obtain rfl := Option.some.inj hF
    exact at_iret (pc := 14) C hr hlk (show inR (-1) from ⟨by decide, by decide⟩) (OK_up (k := 94) (j := 2) ok (isB.r (Or.inl rfl))) dX12_withdraw_14
abbrev rm_X12_paid : Room := { frames := 2, cells := 0, slots := 0, locals := 43 }
def F_X12_paid (N : Nat) (v1 : Int) (v2 : Int) (v3 : Int) (σ : Sto) : Option (Int) :=
  (F_X12_isCarry N v1 v2 σ).bind (fun q1 => if q1 = 0 then ((F_X12_memberOf N v1 σ).bind (fun q3 => inb (ja (jm 3 q3) 1) 48 (some (jl2i (jld (jlm v3 (σ.1 97 (ja (jm 3 q3) 1))) 100))))) else (some 0))
set_option maxHeartbeats 4000000 in
set_option maxRecDepth 100000 in
theorem c_X12_paid (l : Launch) (g : Geo) (N : Nat) (v1 : Int) (v2 : Int) (v3 : Int) (σ : Sto) (res : Int) (h1 : inR v1) (h2 : inR v2) (h3 : inR v3) (ok : OK σ) (hF : F_X12_paid N v1 v2 v3 σ = some res) : MtI l g yX12_paid cX12_paid 4 (some .int) rm_X12_paid [vr g 94, vi v1, vi v2, vi v3] σ res σ inR := by
  intro sz
  refine Met.ofAt (own := RX12) (QQ := fun z => QI g z res σ inR) (by decide +kernel) (Nat.le_of_ble_eq_true rfl) rfl ?_
  intro p e s m args below meth c C hr hlk
  show At p l e rm_X12_paid s m args below meth c 0 0 g 4 (MQ below (QI g s.heap.size res σ inR) args s 0 0 (AA g s.heap.size)) 0 [(0, vr g 94), (1, vi v1), (2, vi v2), (3, vi v3)] [] σ
  unfold F_X12_paid at hF
  refine at_aload_n (pc := 0) C 0 dX12_paid_0 rfl rfl ?_
  refine at_iload_n (pc := 1) C 1 dX12_paid_1 rfl rfl ?_
  refine at_iload_n (pc := 2) C 2 dX12_paid_2 rfl rfl ?_
  obtain ⟨q1, eq1, hF⟩ := bind_some' hF
  refine at_callV (pc := 3) (ci := 12) C (c_X12_isCarry l g N v1 v2 σ q1 h1 h2 ok eq1) kv_X12_isCarry w1589 kd94 rfl rfl rfl rfl (Nat.le_of_ble_eq_true rfl) ⟨rfl, rfl, (Nat.le_of_ble_eq_true rfl), (Nat.le_of_ble_eq_true rfl)⟩ dX12_paid_3 (fun tq1 okq1 => ?_)
  refine at_if_eq (pc := 6) (tgt := 13) C (isB.r tq1) dX12_paid_6 rfl (fun c2 => ?_) (fun c2 => ?_)
  · have hF := (if_pos c2).symm.trans hF
    refine at_iload_n (pc := 13) C 3 dX12_paid_13 rfl rfl ?_
    refine at_i2l (pc := 14) C h3 dX12_paid_14 ?_
    refine at_aload_n (pc := 15) C 0 dX12_paid_15 rfl rfl ?_
    refine at_getr (pc := 16) (k' := 97) C 3 fw_12_20 kd94 rfl (Nat.le_of_ble_eq_true rfl) rfl rfl dX12_paid_16 ?_
    refine at_iconst (pc := 19) C dX12_paid_19 ?_
    refine at_aload_n (pc := 20) C 0 dX12_paid_20 rfl rfl ?_
    refine at_iload_n (pc := 21) C 1 dX12_paid_21 rfl rfl ?_
    obtain ⟨q3, eq3, hF⟩ := bind_some' hF
    refine at_callV (pc := 22) (ci := 12) C (c_X12_memberOf l g N v1 σ q3 h1 ok eq3) kv_X12_memberOf w1593 kd94 rfl rfl rfl rfl (Nat.le_of_ble_eq_true rfl) ⟨rfl, rfl, (Nat.le_of_ble_eq_true rfl), (Nat.le_of_ble_eq_true rfl)⟩ dX12_paid_22 (fun tq3 okq3 => ?_)
    refine at_imul (pc := 25) C dX12_paid_25 ?_
    refine at_iconst (pc := 26) C dX12_paid_26 ?_
    refine at_iadd (pc := 27) C dX12_paid_27 ?_
    obtain ⟨b4, hF⟩ := inb_some hF
    refine at_iaload (pc := 28) C kd97 b4 dX12_paid_28 ?_
    refine at_i2l (pc := 29) C (ok 97 (ja (jm 3 q3) 1)) dX12_paid_29 ?_
    refine at_lmul (pc := 30) C dX12_paid_30 ?_
    refine at_ldc2l (pc := 31) (n := 100) C dX12_paid_31 w1678 ?_
    refine at_ldiv (pc := 34) C dX12_paid_34 (show inL 100 from ⟨by decide, by decide⟩) (by decide) ?_
    refine at_l2i (pc := 35) C dX12_paid_35 ?_
    obtain rfl := Option.some.inj hF
    exact at_iret (pc := 36) C hr hlk (jl2i_R (jld (jlm v3 (σ.1 97 (ja (jm 3 q3) 1))) 100)) ok dX12_paid_36
  · have hF := (if_neg c2).symm.trans hF
    refine at_iconst (pc := 9) C dX12_paid_9 ?_
    refine at_goto (pc := 10) (tgt := 36) C dX12_paid_10 rfl ?_
    obtain rfl := Option.some.inj hF
    exact at_iret (pc := 36) C hr hlk (isB.r (Or.inl rfl)) ok dX12_paid_36
abbrev rm_X12_claimed : Room := { frames := 3, cells := 0, slots := 0, locals := 66 }
def F_X12_claimed (N : Nat) (v1 : Int) (v2 : Int) (σ : Sto) : Option (Int × Sto) :=
  (F_X12_isClaim N v1 (upI σ 94 2 0)).bind (fun q1 => if q1 = 0 then (some ((-1), (upI σ 94 2 0))) else ((F_X12_isIn N v2 0 3 (upI σ 94 2 0)).bind (fun q3 => if q3 = 0 then (some ((-1), (upI σ 94 2 0))) else (if 3 ≤ v2 then ((F_X12_of N (ja 1 (jm 3 v1)) (upI σ 94 2 0)).bind (fun q6 => (F_X12_of N (ja (ja 1 (jm 3 v1)) 1) (upI σ 94 2 0)).bind (fun q7 => (F_X12_of N (ja (ja 1 (jm 3 v1)) 2) (upI σ 94 2 0)).bind (fun q8 => (F_X12_paid N q6 q7 q8 (upI σ 94 2 0)).bind (fun q9 => some (q9, (upI σ 94 2 0))))))) else ((F_X12_of N (ja (ja 1 (jm 3 v1)) v2) (upI σ 94 2 0)).bind (fun q10 => some (q10, (upI σ 94 2 0))))))))
set_option maxHeartbeats 4000000 in
set_option maxRecDepth 100000 in
theorem c_X12_claimed (l : Launch) (g : Geo) (N : Nat) (v1 : Int) (v2 : Int) (σ : Sto) (res : Int × Sto) (h1 : inR v1) (h2 : inR v2) (ok : OK σ) (hF : F_X12_claimed N v1 v2 σ = some res) : MtI l g yX12_claimed cX12_claimed 4 (some .int) rm_X12_claimed [vr g 94, vi v1, vi v2] σ res.1 res.2 inR := by
  intro sz
  refine Met.ofAt (own := RX12) (QQ := fun z => QI g z res.1 res.2 inR) (by decide +kernel) (Nat.le_of_ble_eq_true rfl) rfl ?_
  intro p e s m args below meth c C hr hlk
  show At p l e rm_X12_claimed s m args below meth c 0 0 g 4 (MQ below (QI g s.heap.size res.1 res.2 inR) args s 0 0 (AA g s.heap.size)) 0 [(0, vr g 94), (1, vi v1), (2, vi v2)] [] σ
  unfold F_X12_claimed at hF
  refine at_aload_n (pc := 0) C 0 dX12_claimed_0 rfl rfl ?_
  refine at_iconst (pc := 1) C dX12_claimed_1 ?_
  refine at_puti (pc := 2) (jz := 2) C fu_12_81 kd94 rfl (Nat.le_of_ble_eq_true rfl) rfl rfl dX12_claimed_2 ?_
  refine at_aload_n (pc := 5) C 0 dX12_claimed_5 rfl rfl ?_
  refine at_iload_n (pc := 6) C 1 dX12_claimed_6 rfl rfl ?_
  obtain ⟨q1, eq1, hF⟩ := bind_some' hF
  refine at_callV (pc := 7) (ci := 12) C (c_X12_isClaim l g N v1 (upI σ 94 2 0) q1 h1 (OK_up (k := 94) (j := 2) ok (isB.r (Or.inl rfl))) eq1) kv_X12_isClaim w1666 kd94 rfl rfl rfl rfl (Nat.le_of_ble_eq_true rfl) ⟨rfl, rfl, (Nat.le_of_ble_eq_true rfl), (Nat.le_of_ble_eq_true rfl)⟩ dX12_claimed_7 (fun tq1 okq1 => ?_)
  refine at_if_eq (pc := 10) (tgt := 22) C (isB.r tq1) dX12_claimed_10 rfl (fun c2 => ?_) (fun c2 => ?_)
  · have hF := (if_pos c2).symm.trans hF
    refine at_iconst (pc := 22) C dX12_claimed_22 ?_
    obtain rfl := Option.some.inj hF
    exact at_iret (pc := 23) C hr hlk (show inR (-1) from ⟨by decide, by decide⟩) (OK_up (k := 94) (j := 2) ok (isB.r (Or.inl rfl))) dX12_claimed_23
  · have hF := (if_neg c2).symm.trans hF
    refine at_iload_n (pc := 13) C 2 dX12_claimed_13 rfl rfl ?_
    refine at_iconst (pc := 14) C dX12_claimed_14 ?_
    refine at_iconst (pc := 15) C dX12_claimed_15 ?_
    obtain ⟨q3, eq3, hF⟩ := bind_some' hF
    refine at_callS (pc := 16) C (c_X12_isIn l g N v2 0 3 (upI σ 94 2 0) q3 h2 (isB.r (Or.inl rfl)) (show inR 3 from ⟨by decide, by decide⟩) (OK_up (k := 94) (j := 2) ok (isB.r (Or.inl rfl))) eq3) ks_X12_isIn w1525 rfl rfl (Nat.le_of_ble_eq_true rfl) ⟨rfl, rfl, (Nat.le_of_ble_eq_true rfl), (Nat.le_of_ble_eq_true rfl)⟩ dX12_claimed_16 (fun tq3 okq3 => ?_)
    refine at_if_ne (pc := 19) (tgt := 24) C (isB.r tq3) dX12_claimed_19 rfl (fun c4 => ?_) (fun c4 => ?_)
    · have hF := (if_neg c4).symm.trans hF
      refine at_iconst (pc := 24) C dX12_claimed_24 ?_
      refine at_iconst (pc := 25) C dX12_claimed_25 ?_
      refine at_iload_n (pc := 26) C 1 dX12_claimed_26 rfl rfl ?_
      refine at_imul (pc := 27) C dX12_claimed_27 ?_
      refine at_iadd (pc := 28) C dX12_claimed_28 ?_
      refine at_istore_n (pc := 29) (lv' := [(3, vi (ja 1 (jm 3 v1))), (0, vr g 94), (1, vi v1), (2, vi v2)]) C dX12_claimed_29 rfl (Nat.le_of_ble_eq_true rfl) rfl ?_
      refine at_iload_n (pc := 30) C 3 dX12_claimed_30 rfl rfl ?_
      refine at_iconst (pc := 31) C dX12_claimed_31 ?_
      refine at_icmp_ge (pc := 32) (tgt := 45) C h2 (show inR 3 from ⟨by decide, by decide⟩) dX12_claimed_32 rfl (fun c5 => ?_) (fun c5 => ?_)
      · have hF := (if_pos c5).symm.trans hF
        refine at_aload_n (pc := 45) C 1 dX12_claimed_45 rfl rfl ?_
        refine at_aload_n (pc := 46) C 1 dX12_claimed_46 rfl rfl ?_
        refine at_iload_n (pc := 47) C 0 dX12_claimed_47 rfl rfl ?_
        obtain ⟨q6, eq6, hF⟩ := bind_some' hF
        refine at_callV (pc := 48) (ci := 12) C (c_X12_of l g N (ja 1 (jm 3 v1)) (upI σ 94 2 0) q6 (ja_R 1 (jm 3 v1)) (OK_up (k := 94) (j := 2) ok (isB.r (Or.inl rfl))) eq6) kv_X12_of w1565 kd94 rfl rfl rfl rfl (Nat.le_of_ble_eq_true rfl) ⟨rfl, rfl, (Nat.le_of_ble_eq_true rfl), (Nat.le_of_ble_eq_true rfl)⟩ dX12_claimed_48 (fun tq6 okq6 => ?_)
        refine at_aload_n (pc := 51) C 1 dX12_claimed_51 rfl rfl ?_
        refine at_iload_n (pc := 52) C 0 dX12_claimed_52 rfl rfl ?_
        refine at_iconst (pc := 53) C dX12_claimed_53 ?_
        refine at_iadd (pc := 54) C dX12_claimed_54 ?_
        obtain ⟨q7, eq7, hF⟩ := bind_some' hF
        refine at_callV (pc := 55) (ci := 12) C (c_X12_of l g N (ja (ja 1 (jm 3 v1)) 1) (upI σ 94 2 0) q7 (ja_R (ja 1 (jm 3 v1)) 1) (OK_up (k := 94) (j := 2) ok (isB.r (Or.inl rfl))) eq7) kv_X12_of w1565 kd94 rfl rfl rfl rfl (Nat.le_of_ble_eq_true rfl) ⟨rfl, rfl, (Nat.le_of_ble_eq_true rfl), (Nat.le_of_ble_eq_true rfl)⟩ dX12_claimed_55 (fun tq7 okq7 => ?_)
        refine at_aload_n (pc := 58) C 1 dX12_claimed_58 rfl rfl ?_
        refine at_iload_n (pc := 59) C 0 dX12_claimed_59 rfl rfl ?_
        refine at_iconst (pc := 60) C dX12_claimed_60 ?_
        refine at_iadd (pc := 61) C dX12_claimed_61 ?_
        obtain ⟨q8, eq8, hF⟩ := bind_some' hF
        refine at_callV (pc := 62) (ci := 12) C (c_X12_of l g N (ja (ja 1 (jm 3 v1)) 2) (upI σ 94 2 0) q8 (ja_R (ja 1 (jm 3 v1)) 2) (OK_up (k := 94) (j := 2) ok (isB.r (Or.inl rfl))) eq8) kv_X12_of w1565 kd94 rfl rfl rfl rfl (Nat.le_of_ble_eq_true rfl) ⟨rfl, rfl, (Nat.le_of_ble_eq_true rfl), (Nat.le_of_ble_eq_true rfl)⟩ dX12_claimed_62 (fun tq8 okq8 => ?_)
        obtain ⟨q9, eq9, hF⟩ := bind_some' hF
        refine at_callV (pc := 65) (ci := 12) C (c_X12_paid l g N q6 q7 q8 (upI σ 94 2 0) q9 tq6 tq7 tq8 (OK_up (k := 94) (j := 2) ok (isB.r (Or.inl rfl))) eq9) kv_X12_paid w1674 kd94 rfl rfl rfl rfl (Nat.le_of_ble_eq_true rfl) ⟨rfl, rfl, (Nat.le_of_ble_eq_true rfl), (Nat.le_of_ble_eq_true rfl)⟩ dX12_claimed_65 (fun tq9 okq9 => ?_)
        obtain rfl := Option.some.inj hF
        exact at_iret (pc := 68) C hr hlk tq9 (OK_up (k := 94) (j := 2) ok (isB.r (Or.inl rfl))) dX12_claimed_68
      · have hF := (if_neg c5).symm.trans hF
        refine at_aload_n (pc := 35) C 1 dX12_claimed_35 rfl rfl ?_
        refine at_iload_n (pc := 36) C 0 dX12_claimed_36 rfl rfl ?_
        refine at_iload_n (pc := 37) C 3 dX12_claimed_37 rfl rfl ?_
        refine at_iadd (pc := 38) C dX12_claimed_38 ?_
        obtain ⟨q10, eq10, hF⟩ := bind_some' hF
        refine at_callV (pc := 39) (ci := 12) C (c_X12_of l g N (ja (ja 1 (jm 3 v1)) v2) (upI σ 94 2 0) q10 (ja_R (ja 1 (jm 3 v1)) v2) (OK_up (k := 94) (j := 2) ok (isB.r (Or.inl rfl))) eq10) kv_X12_of w1565 kd94 rfl rfl rfl rfl (Nat.le_of_ble_eq_true rfl) ⟨rfl, rfl, (Nat.le_of_ble_eq_true rfl), (Nat.le_of_ble_eq_true rfl)⟩ dX12_claimed_39 (fun tq10 okq10 => ?_)
        refine at_goto (pc := 42) (tgt := 68) C dX12_claimed_42 rfl ?_
        obtain rfl := Option.some.inj hF
        exact at_iret (pc := 68) C hr hlk tq10 (OK_up (k := 94) (j := 2) ok (isB.r (Or.inl rfl))) dX12_claimed_68
    · have hF := (if_pos c4).symm.trans hF
      refine at_iconst (pc := 22) C dX12_claimed_22 ?_
      obtain rfl := Option.some.inj hF
      exact at_iret (pc := 23) C hr hlk (show inR (-1) from ⟨by decide, by decide⟩) (OK_up (k := 94) (j := 2) ok (isB.r (Or.inl rfl))) dX12_claimed_23
abbrev rm_X12_claimAll : Room := { frames := 6, cells := 0, slots := 0, locals := 142 }
def F_X12_claimAll_J72 (N : Nat) (nx14 : (Int × Int × Sto) → Option (Int × Sto)) (v1 : Int) (v2 : Int) (σ : Sto) : Option (Int × Sto) :=
  nx14 (v1, (ja v2 1), σ)
def F_X12_claimAll_J51 (N : Nat) (nx14 : (Int × Int × Sto) → Option (Int × Sto)) (v1 : Int) (v2 : Int) (σ : Sto) : Option (Int × Sto) :=
  inb v2 144 ((F_X12_claims N (jdiv v2 12) (jrem v2 12) (σ.1 107 v2) σ).bind (fun q8 => F_X12_claimAll_J72 N nx14 (ja v1 1) v2 q8))
def F_X12_claimAll_B14 (N : Nat) (nx14 : (Int × Int × Sto) → Option (Int × Sto))  (v1 : Int) (v2 : Int) (σ : Sto) : Option (Int × Sto) :=
  if 144 ≤ v2 then (some (v1, σ)) else ((F_X12_of N 0 σ).bind (fun q3 => if 30 ≤ q3 then (some (v1, σ)) else (inb v2 144 (if (σ.1 107 v2) = 0 then (F_X12_claimAll_J72 N nx14 v1 v2 σ) else (if v1 = 0 then ((F_X12_canUndo N σ).bind (fun q10 => F_X12_claimAll_J51 N nx14 v1 v2 q10)) else (F_X12_claimAll_J51 N nx14 v1 v2 σ))))))
def F_X12_claimAll (N : Nat)  (σ : Sto) : Option (Int × Sto) :=
  (F_X12_solves N (upI σ 94 2 0)).bind (fun q1 => loopK (fun q nx14 => F_X12_claimAll_B14 N  nx14  q.1 q.2.1 q.2.2) N (0, 0, q1.2))
set_option maxHeartbeats 4000000 in
set_option maxRecDepth 100000 in
theorem c_X12_claimAll (l : Launch) (g : Geo) (N : Nat)  (σ : Sto) (res : Int × Sto)  (ok : OK σ) (hF : F_X12_claimAll N  σ = some res) : MtI l g yX12_claimAll cX12_claimAll 3 (some .int) rm_X12_claimAll [vr g 94] σ res.1 res.2 inR := by
  intro sz
  refine Met.ofAt (own := RX12) (QQ := fun z => QI g z res.1 res.2 inR) (by decide +kernel) (Nat.le_of_ble_eq_true rfl) rfl ?_
  intro p e s m args below meth c C hr hlk
  show At p l e rm_X12_claimAll s m args below meth c 0 0 g 3 (MQ below (QI g s.heap.size res.1 res.2 inR) args s 0 0 (AA g s.heap.size)) 0 [(0, vr g 94)] [] σ
  unfold F_X12_claimAll at hF
  refine at_aload_n (pc := 0) C 0 dX12_claimAll_0 rfl rfl ?_
  refine at_iconst (pc := 1) C dX12_claimAll_1 ?_
  refine at_puti (pc := 2) (jz := 2) C fu_12_81 kd94 rfl (Nat.le_of_ble_eq_true rfl) rfl rfl dX12_claimAll_2 ?_
  refine at_aload_n (pc := 5) C 0 dX12_claimAll_5 rfl rfl ?_
  obtain ⟨q1, eq1, hF⟩ := bind_some' hF
  refine at_callV (pc := 6) (ci := 12) C (c_X12_solves l g N  (upI σ 94 2 0) q1  (OK_up (k := 94) (j := 2) ok (isB.r (Or.inl rfl))) eq1) kv_X12_solves w1683 kd94 rfl rfl rfl rfl (Nat.le_of_ble_eq_true rfl) ⟨rfl, rfl, (Nat.le_of_ble_eq_true rfl), (Nat.le_of_ble_eq_true rfl)⟩ dX12_claimAll_6 (fun tq1 okq1 => ?_)
  refine at_pop (pc := 9) C dX12_claimAll_9 rfl ?_
  refine at_iconst (pc := 10) C dX12_claimAll_10 ?_
  refine at_istore_n (pc := 11) (lv' := [(1, vi 0), (0, vr g 94)]) C dX12_claimAll_11 rfl (Nat.le_of_ble_eq_true rfl) rfl ?_
  refine at_iconst (pc := 12) C dX12_claimAll_12 ?_
  refine at_istore_n (pc := 13) (lv' := [(2, vi 0), (1, vi 0), (0, vr g 94)]) C dX12_claimAll_13 rfl (Nat.le_of_ble_eq_true rfl) rfl ?_
  have L14 : ∀ (v1 : Int) (v2 : Int) (σ : Sto), inR v1 → inR v2 → OK σ → loopK (fun q nx14 => F_X12_claimAll_B14 N  nx14  q.1 q.2.1 q.2.2) N (v1, v2, σ) = some res → At p l e rm_X12_claimAll s m args below meth c 0 0 g 3 (MQ below (QI g s.heap.size res.1 res.2 inR) args s 0 0 (AA g s.heap.size)) 14 [(0, vr g 94), (1, vi v1), (2, vi v2)] [] σ := by
    intro v1 v2 σ h1 h2 ok hF
    refine loopK_ind (res := res) (P := fun (q : Int × Int × Sto) => inR q.1 → inR q.2.1 → OK q.2.2 → At p l e rm_X12_claimAll s m args below meth c 0 0 g 3 (MQ below (QI g s.heap.size res.1 res.2 inR) args s 0 0 (AA g s.heap.size)) 14 [(0, vr g 94), (1, vi q.1), (2, vi q.2.1)] [] q.2.2) ?_ N _ hF h1 h2 ok
    intro nx14 q ih14 hF
    obtain ⟨v1, v2, σ⟩ := q
    intro h1 h2 ok
    have hF : F_X12_claimAll_B14 N  nx14  v1 v2 σ = some res := hF
    unfold F_X12_claimAll_B14 at hF
    refine at_iload_n (pc := 14) C 2 dX12_claimAll_14 rfl rfl ?_
    refine at_sipush (pc := 15) C dX12_claimAll_15 (by decide) ?_
    refine at_icmp_ge (pc := 18) (tgt := 78) C h2 (show inR 144 from ⟨by decide, by decide⟩) dX12_claimAll_18 rfl (fun c2 => ?_) (fun c2 => ?_)
    · have hF := (if_pos c2).symm.trans hF
      refine at_iload_n (pc := 78) C 1 dX12_claimAll_78 rfl rfl ?_
      obtain rfl := Option.some.inj hF
      exact at_iret (pc := 79) C hr hlk h1 ok dX12_claimAll_79
    · have hF := (if_neg c2).symm.trans hF
      refine at_aload_n (pc := 21) C 0 dX12_claimAll_21 rfl rfl ?_
      refine at_iconst (pc := 22) C dX12_claimAll_22 ?_
      obtain ⟨q3, eq3, hF⟩ := bind_some' hF
      refine at_callV (pc := 23) (ci := 12) C (c_X12_of l g N 0 σ q3 (isB.r (Or.inl rfl)) ok eq3) kv_X12_of w1565 kd94 rfl rfl rfl rfl (Nat.le_of_ble_eq_true rfl) ⟨rfl, rfl, (Nat.le_of_ble_eq_true rfl), (Nat.le_of_ble_eq_true rfl)⟩ dX12_claimAll_23 (fun tq3 okq3 => ?_)
      refine at_bipush (pc := 26) C dX12_claimAll_26 (by decide) ?_
      refine at_icmp_ge (pc := 28) (tgt := 78) C tq3 (show inR 30 from ⟨by decide, by decide⟩) dX12_claimAll_28 rfl (fun c4 => ?_) (fun c4 => ?_)
      · have hF := (if_pos c4).symm.trans hF
        refine at_iload_n (pc := 78) C 1 dX12_claimAll_78 rfl rfl ?_
        obtain rfl := Option.some.inj hF
        exact at_iret (pc := 79) C hr hlk h1 ok dX12_claimAll_79
      · have hF := (if_neg c4).symm.trans hF
        have J72 : ∀ (v1 : Int) (v2 : Int) (σ : Sto), inR v1 → inR v2 → OK σ → F_X12_claimAll_J72 N nx14 v1 v2 σ = some res → At p l e rm_X12_claimAll s m args below meth c 0 0 g 3 (MQ below (QI g s.heap.size res.1 res.2 inR) args s 0 0 (AA g s.heap.size)) 72 [(0, vr g 94), (1, vi v1), (2, vi v2)] [] σ := by
          intro v1 v2 σ h1 h2 ok hF
          unfold F_X12_claimAll_J72 at hF
          refine at_iinc (pc := 72) (lv' := [(2, vi (ja v2 1)), (0, vr g 94), (1, vi v1)]) C 2 dX12_claimAll_72 rfl (Nat.le_of_ble_eq_true rfl) rfl ?_
          refine at_goto (pc := 75) (tgt := 14) C dX12_claimAll_75 rfl ?_
          refine at_sub (lv' := [(0, vr g 94), (1, vi v1), (2, vi (ja v2 1))]) [1, 2, 0] rfl ?_
          exact ih14 _ hF h1 (ja_R v2 1) ok
        refine at_aload_n (pc := 31) C 0 dX12_claimAll_31 rfl rfl ?_
        refine at_getr (pc := 32) (k' := 107) C 13 fw_12_54 kd94 rfl (Nat.le_of_ble_eq_true rfl) rfl rfl dX12_claimAll_32 ?_
        refine at_iload_n (pc := 35) C 2 dX12_claimAll_35 rfl rfl ?_
        obtain ⟨b5, hF⟩ := inb_some hF
        refine at_iaload (pc := 36) C kd107 b5 dX12_claimAll_36 ?_
        refine at_if_ne (pc := 37) (tgt := 43) C (ok 107 v2) dX12_claimAll_37 rfl (fun c6 => ?_) (fun c6 => ?_)
        · have hF := (if_neg c6).symm.trans hF
          have J51 : ∀ (v1 : Int) (v2 : Int) (σ : Sto), inR v1 → inR v2 → OK σ → F_X12_claimAll_J51 N nx14 v1 v2 σ = some res → At p l e rm_X12_claimAll s m args below meth c 0 0 g 3 (MQ below (QI g s.heap.size res.1 res.2 inR) args s 0 0 (AA g s.heap.size)) 51 [(0, vr g 94), (1, vi v1), (2, vi v2)] [] σ := by
            intro v1 v2 σ h1 h2 ok hF
            unfold F_X12_claimAll_J51 at hF
            refine at_aload_n (pc := 51) C 0 dX12_claimAll_51 rfl rfl ?_
            refine at_iload_n (pc := 52) C 2 dX12_claimAll_52 rfl rfl ?_
            refine at_bipush (pc := 53) C dX12_claimAll_53 (by decide) ?_
            refine at_idiv (pc := 55) C dX12_claimAll_55 (show inR 12 from ⟨by decide, by decide⟩) (by decide) ?_
            refine at_iload_n (pc := 56) C 2 dX12_claimAll_56 rfl rfl ?_
            refine at_bipush (pc := 57) C dX12_claimAll_57 (by decide) ?_
            refine at_irem (pc := 59) C dX12_claimAll_59 (show inR 12 from ⟨by decide, by decide⟩) (by decide) ?_
            refine at_aload_n (pc := 60) C 0 dX12_claimAll_60 rfl rfl ?_
            refine at_getr (pc := 61) (k' := 107) C 13 fw_12_54 kd94 rfl (Nat.le_of_ble_eq_true rfl) rfl rfl dX12_claimAll_61 ?_
            refine at_iload_n (pc := 64) C 2 dX12_claimAll_64 rfl rfl ?_
            obtain ⟨b7, hF⟩ := inb_some hF
            refine at_iaload (pc := 65) C kd107 b7 dX12_claimAll_65 ?_
            obtain ⟨q8, eq8, hF⟩ := bind_some' hF
            refine at_callVv (pc := 66) (ci := 12) C (c_X12_claims l g N (jdiv v2 12) (jrem v2 12) (σ.1 107 v2) σ q8 (jdiv_R v2 12) (jrem_R v2 12) (ok 107 v2) ok eq8) kv_X12_claims w1658 kd94 rfl rfl rfl rfl (Nat.le_of_ble_eq_true rfl) ⟨rfl, rfl, (Nat.le_of_ble_eq_true rfl), (Nat.le_of_ble_eq_true rfl)⟩ dX12_claimAll_66 (fun okq8 => ?_)
            refine at_iinc (pc := 69) (lv' := [(1, vi (ja v1 1)), (0, vr g 94), (2, vi v2)]) C 1 dX12_claimAll_69 rfl (Nat.le_of_ble_eq_true rfl) rfl ?_
            refine at_sub (lv' := [(0, vr g 94), (1, vi (ja v1 1)), (2, vi v2)]) [1, 0, 2] rfl ?_
            exact J72 (ja v1 1) v2 q8 (ja_R v1 1) h2 okq8 hF
          refine at_iload_n (pc := 43) C 1 dX12_claimAll_43 rfl rfl ?_
          refine at_if_ne (pc := 44) (tgt := 51) C h1 dX12_claimAll_44 rfl (fun c9 => ?_) (fun c9 => ?_)
          · have hF := (if_neg c9).symm.trans hF
            exact J51 v1 v2 σ h1 h2 ok hF
          · have hF := (if_pos c9).symm.trans hF
            refine at_aload_n (pc := 47) C 0 dX12_claimAll_47 rfl rfl ?_
            obtain ⟨q10, eq10, hF⟩ := bind_some' hF
            refine at_callVv (pc := 48) (ci := 12) C (c_X12_canUndo l g N  σ q10  ok eq10) kv_X12_canUndo w1654 kd94 rfl rfl rfl rfl (Nat.le_of_ble_eq_true rfl) ⟨rfl, rfl, (Nat.le_of_ble_eq_true rfl), (Nat.le_of_ble_eq_true rfl)⟩ dX12_claimAll_48 (fun okq10 => ?_)
            exact J51 v1 v2 q10 h1 h2 okq10 hF
        · have hF := (if_pos c6).symm.trans hF
          refine at_goto (pc := 40) (tgt := 72) C dX12_claimAll_40 rfl ?_
          exact J72 v1 v2 σ h1 h2 ok hF
  refine at_sub (lv' := [(0, vr g 94), (1, vi 0), (2, vi 0)]) [2, 1, 0] rfl ?_
  exact L14 0 0 q1.2 (isB.r (Or.inl rfl)) (isB.r (Or.inl rfl)) okq1 hF
abbrev rm_X12_result_ : Room := { frames := 2, cells := 0, slots := 0, locals := 45 }
def F_X12_result_ (N : Nat) (v1 : Int) (v2 : Int) (σ : Sto) : Option (Int × Sto) :=
  (F_X12_isPeriod N v1 (upI σ 94 2 0)).bind (fun q1 => if q1 = 0 then (some (0, (upI σ 94 2 0))) else ((F_X12_isIn N v2 (-99999) 99999 (upI σ 94 2 0)).bind (fun q3 => if q3 = 0 then (some (0, (upI σ 94 2 0))) else ((F_X12_claimedOf N v1 (upI σ 94 2 0)).bind (fun q5 => if q5 ≤ 0 then ((F_X12_canUndo N (upI σ 94 2 0)).bind (fun q7 => (F_X12_lay N (ja 91 v1) v2 q7).bind (fun q8 => some (1, q8)))) else (some (0, (upI σ 94 2 0))))))))
set_option maxHeartbeats 4000000 in
set_option maxRecDepth 100000 in
theorem c_X12_result_ (l : Launch) (g : Geo) (N : Nat) (v1 : Int) (v2 : Int) (σ : Sto) (res : Int × Sto) (h1 : inR v1) (h2 : inR v2) (ok : OK σ) (hF : F_X12_result_ N v1 v2 σ = some res) : MtI l g yX12_result_ cX12_result_ 3 (some .boolean) rm_X12_result_ [vr g 94, vi v1, vi v2] σ res.1 res.2 isB := by
  intro sz
  refine Met.ofAt (own := RX12) (QQ := fun z => QI g z res.1 res.2 isB) (by decide +kernel) (Nat.le_of_ble_eq_true rfl) rfl ?_
  intro p e s m args below meth c C hr hlk
  show At p l e rm_X12_result_ s m args below meth c 0 0 g 3 (MQ below (QI g s.heap.size res.1 res.2 isB) args s 0 0 (AA g s.heap.size)) 0 [(0, vr g 94), (1, vi v1), (2, vi v2)] [] σ
  unfold F_X12_result_ at hF
  refine at_aload_n (pc := 0) C 0 dX12_result__0 rfl rfl ?_
  refine at_iconst (pc := 1) C dX12_result__1 ?_
  refine at_puti (pc := 2) (jz := 2) C fu_12_81 kd94 rfl (Nat.le_of_ble_eq_true rfl) rfl rfl dX12_result__2 ?_
  refine at_aload_n (pc := 5) C 0 dX12_result__5 rfl rfl ?_
  refine at_iload_n (pc := 6) C 1 dX12_result__6 rfl rfl ?_
  obtain ⟨q1, eq1, hF⟩ := bind_some' hF
  refine at_callV (pc := 7) (ci := 12) C (c_X12_isPeriod l g N v1 (upI σ 94 2 0) q1 h1 (OK_up (k := 94) (j := 2) ok (isB.r (Or.inl rfl))) eq1) kv_X12_isPeriod w1581 kd94 rfl rfl rfl rfl (Nat.le_of_ble_eq_true rfl) ⟨rfl, rfl, (Nat.le_of_ble_eq_true rfl), (Nat.le_of_ble_eq_true rfl)⟩ dX12_result__7 (fun tq1 okq1 => ?_)
  refine at_if_eq (pc := 10) (tgt := 32) C (isB.r tq1) dX12_result__10 rfl (fun c2 => ?_) (fun c2 => ?_)
  · have hF := (if_pos c2).symm.trans hF
    refine at_iconst (pc := 32) C dX12_result__32 ?_
    obtain rfl := Option.some.inj hF
    exact at_zret (pc := 33) C hr hlk (Or.inl rfl) (OK_up (k := 94) (j := 2) ok (isB.r (Or.inl rfl))) dX12_result__33
  · have hF := (if_neg c2).symm.trans hF
    refine at_iload_n (pc := 13) C 2 dX12_result__13 rfl rfl ?_
    refine at_ldc (pc := 14) (n := (-99999)) C dX12_result__14 w1540 ?_
    refine at_ldc (pc := 16) (n := 99999) C dX12_result__16 w1500 ?_
    obtain ⟨q3, eq3, hF⟩ := bind_some' hF
    refine at_callS (pc := 18) C (c_X12_isIn l g N v2 (-99999) 99999 (upI σ 94 2 0) q3 h2 (show inR (-99999) from ⟨by decide, by decide⟩) (show inR 99999 from ⟨by decide, by decide⟩) (OK_up (k := 94) (j := 2) ok (isB.r (Or.inl rfl))) eq3) ks_X12_isIn w1525 rfl rfl (Nat.le_of_ble_eq_true rfl) ⟨rfl, rfl, (Nat.le_of_ble_eq_true rfl), (Nat.le_of_ble_eq_true rfl)⟩ dX12_result__18 (fun tq3 okq3 => ?_)
    refine at_if_eq (pc := 21) (tgt := 32) C (isB.r tq3) dX12_result__21 rfl (fun c4 => ?_) (fun c4 => ?_)
    · have hF := (if_pos c4).symm.trans hF
      refine at_iconst (pc := 32) C dX12_result__32 ?_
      obtain rfl := Option.some.inj hF
      exact at_zret (pc := 33) C hr hlk (Or.inl rfl) (OK_up (k := 94) (j := 2) ok (isB.r (Or.inl rfl))) dX12_result__33
    · have hF := (if_neg c4).symm.trans hF
      refine at_aload_n (pc := 24) C 0 dX12_result__24 rfl rfl ?_
      refine at_iload_n (pc := 25) C 1 dX12_result__25 rfl rfl ?_
      obtain ⟨q5, eq5, hF⟩ := bind_some' hF
      refine at_callV (pc := 26) (ci := 12) C (c_X12_claimedOf l g N v1 (upI σ 94 2 0) q5 h1 (OK_up (k := 94) (j := 2) ok (isB.r (Or.inl rfl))) eq5) kv_X12_claimedOf w1650 kd94 rfl rfl rfl rfl (Nat.le_of_ble_eq_true rfl) ⟨rfl, rfl, (Nat.le_of_ble_eq_true rfl), (Nat.le_of_ble_eq_true rfl)⟩ dX12_result__26 (fun tq5 okq5 => ?_)
      refine at_if_le (pc := 29) (tgt := 34) C tq5 dX12_result__29 rfl (fun c6 => ?_) (fun c6 => ?_)
      · have hF := (if_pos c6).symm.trans hF
        refine at_aload_n (pc := 34) C 0 dX12_result__34 rfl rfl ?_
        obtain ⟨q7, eq7, hF⟩ := bind_some' hF
        refine at_callVv (pc := 35) (ci := 12) C (c_X12_canUndo l g N  (upI σ 94 2 0) q7  (OK_up (k := 94) (j := 2) ok (isB.r (Or.inl rfl))) eq7) kv_X12_canUndo w1654 kd94 rfl rfl rfl rfl (Nat.le_of_ble_eq_true rfl) ⟨rfl, rfl, (Nat.le_of_ble_eq_true rfl), (Nat.le_of_ble_eq_true rfl)⟩ dX12_result__35 (fun okq7 => ?_)
        refine at_aload_n (pc := 38) C 0 dX12_result__38 rfl rfl ?_
        refine at_bipush (pc := 39) C dX12_result__39 (by decide) ?_
        refine at_iload_n (pc := 41) C 1 dX12_result__41 rfl rfl ?_
        refine at_iadd (pc := 42) C dX12_result__42 ?_
        refine at_iload_n (pc := 43) C 2 dX12_result__43 rfl rfl ?_
        obtain ⟨q8, eq8, hF⟩ := bind_some' hF
        refine at_callVv (pc := 44) (ci := 12) C (c_X12_lay l g N (ja 91 v1) v2 q7 q8 (ja_R 91 v1) h2 okq7 eq8) kv_X12_lay w1319 kd94 rfl rfl rfl rfl (Nat.le_of_ble_eq_true rfl) ⟨rfl, rfl, (Nat.le_of_ble_eq_true rfl), (Nat.le_of_ble_eq_true rfl)⟩ dX12_result__44 (fun okq8 => ?_)
        refine at_iconst (pc := 47) C dX12_result__47 ?_
        obtain rfl := Option.some.inj hF
        exact at_zret (pc := 48) C hr hlk (Or.inr rfl) okq8 dX12_result__48
      · have hF := (if_neg c6).symm.trans hF
        refine at_iconst (pc := 32) C dX12_result__32 ?_
        obtain rfl := Option.some.inj hF
        exact at_zret (pc := 33) C hr hlk (Or.inl rfl) (OK_up (k := 94) (j := 2) ok (isB.r (Or.inl rfl))) dX12_result__33
abbrev rm_X12_owned : Room := { frames := 1, cells := 0, slots := 0, locals := 22 }
def F_X12_owned (N : Nat) (v1 : Int) (v2 : Int) (v3 : Int) (v4 : Int) (σ : Sto) : Option (Sto) :=
  (F_X12_of N 103 σ).bind (fun q1 => (F_X12_lay N (ja 104 (jm 4 q1)) v1 σ).bind (fun q2 => (F_X12_lay N (ja (ja 104 (jm 4 q1)) 1) v2 q2).bind (fun q3 => (F_X12_lay N (ja (ja 104 (jm 4 q1)) 2) v3 q3).bind (fun q4 => (F_X12_lay N (ja (ja 104 (jm 4 q1)) 3) v4 q4).bind (fun q5 => (F_X12_of N 103 q5).bind (fun q6 => (F_X12_lay N 103 (ja q6 1) q5).bind (fun q7 => some q7)))))))
set_option maxHeartbeats 4000000 in
set_option maxRecDepth 100000 in
theorem c_X12_owned (l : Launch) (g : Geo) (N : Nat) (v1 : Int) (v2 : Int) (v3 : Int) (v4 : Int) (σ : Sto) (res : Sto) (h1 : inR v1) (h2 : inR v2) (h3 : inR v3) (h4 : inR v4) (ok : OK σ) (hF : F_X12_owned N v1 v2 v3 v4 σ = some res) : MtV l g yX12_owned cX12_owned 6 none rm_X12_owned [vr g 94, vi v1, vi v2, vi v3, vi v4] σ res := by
  intro sz
  refine Met.ofAt (own := RX12) (QQ := fun z => QV g z res) (by decide +kernel) (Nat.le_of_ble_eq_true rfl) rfl ?_
  intro p e s m args below meth c C hr hlk
  show At p l e rm_X12_owned s m args below meth c 0 0 g 6 (MQ below (QV g s.heap.size res) args s 0 0 (AA g s.heap.size)) 0 [(0, vr g 94), (1, vi v1), (2, vi v2), (3, vi v3), (4, vi v4)] [] σ
  unfold F_X12_owned at hF
  refine at_bipush (pc := 0) C dX12_owned_0 (by decide) ?_
  refine at_iconst (pc := 2) C dX12_owned_2 ?_
  refine at_aload_n (pc := 3) C 0 dX12_owned_3 rfl rfl ?_
  refine at_bipush (pc := 4) C dX12_owned_4 (by decide) ?_
  obtain ⟨q1, eq1, hF⟩ := bind_some' hF
  refine at_callV (pc := 6) (ci := 12) C (c_X12_of l g N 103 σ q1 (show inR 103 from ⟨by decide, by decide⟩) ok eq1) kv_X12_of w1565 kd94 rfl rfl rfl rfl (Nat.le_of_ble_eq_true rfl) ⟨rfl, rfl, (Nat.le_of_ble_eq_true rfl), (Nat.le_of_ble_eq_true rfl)⟩ dX12_owned_6 (fun tq1 okq1 => ?_)
  refine at_imul (pc := 9) C dX12_owned_9 ?_
  refine at_iadd (pc := 10) C dX12_owned_10 ?_
  refine at_istore (pc := 11) (lv' := [(5, vi (ja 104 (jm 4 q1))), (0, vr g 94), (1, vi v1), (2, vi v2), (3, vi v3), (4, vi v4)]) C dX12_owned_11 (Nat.le_of_ble_eq_true rfl) rfl ?_
  refine at_aload_n (pc := 13) C 1 dX12_owned_13 rfl rfl ?_
  refine at_iload (pc := 14) C 0 dX12_owned_14 rfl ?_
  refine at_iload_n (pc := 16) C 2 dX12_owned_16 rfl rfl ?_
  obtain ⟨q2, eq2, hF⟩ := bind_some' hF
  refine at_callVv (pc := 17) (ci := 12) C (c_X12_lay l g N (ja 104 (jm 4 q1)) v1 σ q2 (ja_R 104 (jm 4 q1)) h1 ok eq2) kv_X12_lay w1319 kd94 rfl rfl rfl rfl (Nat.le_of_ble_eq_true rfl) ⟨rfl, rfl, (Nat.le_of_ble_eq_true rfl), (Nat.le_of_ble_eq_true rfl)⟩ dX12_owned_17 (fun okq2 => ?_)
  refine at_aload_n (pc := 20) C 1 dX12_owned_20 rfl rfl ?_
  refine at_iload (pc := 21) C 0 dX12_owned_21 rfl ?_
  refine at_iconst (pc := 23) C dX12_owned_23 ?_
  refine at_iadd (pc := 24) C dX12_owned_24 ?_
  refine at_iload_n (pc := 25) C 3 dX12_owned_25 rfl rfl ?_
  obtain ⟨q3, eq3, hF⟩ := bind_some' hF
  refine at_callVv (pc := 26) (ci := 12) C (c_X12_lay l g N (ja (ja 104 (jm 4 q1)) 1) v2 q2 q3 (ja_R (ja 104 (jm 4 q1)) 1) h2 okq2 eq3) kv_X12_lay w1319 kd94 rfl rfl rfl rfl (Nat.le_of_ble_eq_true rfl) ⟨rfl, rfl, (Nat.le_of_ble_eq_true rfl), (Nat.le_of_ble_eq_true rfl)⟩ dX12_owned_26 (fun okq3 => ?_)
  refine at_aload_n (pc := 29) C 1 dX12_owned_29 rfl rfl ?_
  refine at_iload (pc := 30) C 0 dX12_owned_30 rfl ?_
  refine at_iconst (pc := 32) C dX12_owned_32 ?_
  refine at_iadd (pc := 33) C dX12_owned_33 ?_
  refine at_iload_n (pc := 34) C 4 dX12_owned_34 rfl rfl ?_
  obtain ⟨q4, eq4, hF⟩ := bind_some' hF
  refine at_callVv (pc := 35) (ci := 12) C (c_X12_lay l g N (ja (ja 104 (jm 4 q1)) 2) v3 q3 q4 (ja_R (ja 104 (jm 4 q1)) 2) h3 okq3 eq4) kv_X12_lay w1319 kd94 rfl rfl rfl rfl (Nat.le_of_ble_eq_true rfl) ⟨rfl, rfl, (Nat.le_of_ble_eq_true rfl), (Nat.le_of_ble_eq_true rfl)⟩ dX12_owned_35 (fun okq4 => ?_)
  refine at_aload_n (pc := 38) C 1 dX12_owned_38 rfl rfl ?_
  refine at_iload (pc := 39) C 0 dX12_owned_39 rfl ?_
  refine at_iconst (pc := 41) C dX12_owned_41 ?_
  refine at_iadd (pc := 42) C dX12_owned_42 ?_
  refine at_iload (pc := 43) C 5 dX12_owned_43 rfl ?_
  obtain ⟨q5, eq5, hF⟩ := bind_some' hF
  refine at_callVv (pc := 45) (ci := 12) C (c_X12_lay l g N (ja (ja 104 (jm 4 q1)) 3) v4 q4 q5 (ja_R (ja 104 (jm 4 q1)) 3) h4 okq4 eq5) kv_X12_lay w1319 kd94 rfl rfl rfl rfl (Nat.le_of_ble_eq_true rfl) ⟨rfl, rfl, (Nat.le_of_ble_eq_true rfl), (Nat.le_of_ble_eq_true rfl)⟩ dX12_owned_45 (fun okq5 => ?_)
  refine at_aload_n (pc := 48) C 1 dX12_owned_48 rfl rfl ?_
  refine at_bipush (pc := 49) C dX12_owned_49 (by decide) ?_
  refine at_aload_n (pc := 51) C 1 dX12_owned_51 rfl rfl ?_
  refine at_bipush (pc := 52) C dX12_owned_52 (by decide) ?_
  obtain ⟨q6, eq6, hF⟩ := bind_some' hF
  refine at_callV (pc := 54) (ci := 12) C (c_X12_of l g N 103 q5 q6 (show inR 103 from ⟨by decide, by decide⟩) okq5 eq6) kv_X12_of w1565 kd94 rfl rfl rfl rfl (Nat.le_of_ble_eq_true rfl) ⟨rfl, rfl, (Nat.le_of_ble_eq_true rfl), (Nat.le_of_ble_eq_true rfl)⟩ dX12_owned_54 (fun tq6 okq6 => ?_)
  refine at_iconst (pc := 57) C dX12_owned_57 ?_
  refine at_iadd (pc := 58) C dX12_owned_58 ?_
  obtain ⟨q7, eq7, hF⟩ := bind_some' hF
  refine at_callVv (pc := 59) (ci := 12) C (c_X12_lay l g N 103 (ja q6 1) q5 q7 (show inR 103 from ⟨by decide, by decide⟩) (ja_R q6 1) okq5 eq7) kv_X12_lay w1319 kd94 rfl rfl rfl rfl (Nat.le_of_ble_eq_true rfl) ⟨rfl, rfl, (Nat.le_of_ble_eq_true rfl), (Nat.le_of_ble_eq_true rfl)⟩ dX12_owned_59 (fun okq7 => ?_)
  obtain rfl := Option.some.inj hF
  exact at_vret (pc := 62) C hr hlk okq7 dX12_owned_62
abbrev rm_X12_own : Room := { frames := 4, cells := 0, slots := 0, locals := 97 }
def F_X12_own_J169 (N : Nat)  (v1 : Int) (v2 : Int) (v3 : Int) (v4 : Int) (v5 : Int) (σ : Sto) : Option (Int × Sto) :=
  if v5 = 0 then (some ((-3), (upI σ 94 24 0))) else ((F_X12_canUndo N (upI σ 94 24 0)).bind (fun q17 => (F_X12_owned N v1 v2 v3 v4 q17).bind (fun q18 => (F_X12_of N 103 q18).bind (fun q19 => some (q19, q18)))))
def F_X12_own_J161 (N : Nat) (nx96 : (Int × Int) → Option (Int × Sto)) (v1 : Int) (v2 : Int) (v3 : Int) (v4 : Int) (v6 : Int) (t0 : Int) (σ : Sto) : Option (Int × Sto) :=
  nx96 (t0, (ja v6 1))
def F_X12_own_J160 (N : Nat) (nx96 : (Int × Int) → Option (Int × Sto)) (v1 : Int) (v2 : Int) (v3 : Int) (v4 : Int) (v6 : Int) (σ : Sto) : Option (Int × Sto) :=
  F_X12_own_J161 N nx96 v1 v2 v3 v4 v6 0 σ
def F_X12_own_B96 (N : Nat) (nx96 : (Int × Int) → Option (Int × Sto)) (v1 : Int) (v2 : Int) (v3 : Int) (v4 : Int) (v5 : Int) (v6 : Int) (σ : Sto) : Option (Int × Sto) :=
  (F_X12_of N 0 σ).bind (fun q20 => if q20 ≤ v6 then (F_X12_own_J169 N  v1 v2 v3 v4 v5 σ) else ((F_X12_of N (ja 1 (jm 3 v6)) σ).bind (fun q22 => (F_X12_of N (ja (ja 1 (jm 3 v6)) 1) σ).bind (fun q23 => if v5 = 0 then (F_X12_own_J160 N nx96 v1 v2 v3 v4 v6 σ) else ((F_X12_claimedBy N q22 q23 σ).bind (fun q25 => (F_X12_boundOf N q22 q23 σ).bind (fun q26 => if q26 < q25 then (F_X12_own_J160 N nx96 v1 v2 v3 v4 v6 σ) else (F_X12_own_J161 N nx96 v1 v2 v3 v4 v6 1 σ))))))))
def F_X12_own (N : Nat) (v1 : Int) (v2 : Int) (v3 : Int) (v4 : Int) (σ : Sto) : Option (Int × Sto) :=
  (F_X12_isMember N v1 (upI σ 94 2 0)).bind (fun q1 => if q1 = 0 then (some ((-1), (upI σ 94 2 0))) else ((F_X12_isMember N v2 (upI σ 94 2 0)).bind (fun q3 => if q3 = 0 then (some ((-1), (upI σ 94 2 0))) else (if v2 ≤ v1 then (some ((-1), (upI σ 94 2 0))) else ((F_X12_isIn N v3 0 100 (upI σ 94 2 0)).bind (fun q6 => if q6 = 0 then (some ((-1), (upI σ 94 2 0))) else ((F_X12_isDay N v4 (upI σ 94 2 0)).bind (fun q8 => if q8 = 0 then (some ((-1), (upI σ 94 2 0))) else ((F_X12_of N 103 (upI σ 94 2 0)).bind (fun q10 => if q10 = 24 then (some ((-2), (upI σ 94 2 0))) else ((F_X12_copyBank N 0 1 (upI σ 94 2 0)).bind (fun q12 => (F_X12_owned N v1 v2 v3 v4 (upI q12 94 24 1)).bind (fun q13 => inb 0 8 ((F_X12_laysStretches N (q13.1 100 0) q13).bind (fun q15 => loopK (fun q nx96 => F_X12_own_B96 N  nx96 v1 v2 v3 v4 q.1 q.2 q15) N (1, 0))))))))))))))))
set_option maxHeartbeats 4000000 in
set_option maxRecDepth 100000 in
theorem c_X12_own (l : Launch) (g : Geo) (N : Nat) (v1 : Int) (v2 : Int) (v3 : Int) (v4 : Int) (σ : Sto) (res : Int × Sto) (h1 : inR v1) (h2 : inR v2) (h3 : inR v3) (h4 : inR v4) (ok : OK σ) (hF : F_X12_own N v1 v2 v3 v4 σ = some res) : MtI l g yX12_own cX12_own 9 (some .int) rm_X12_own [vr g 94, vi v1, vi v2, vi v3, vi v4] σ res.1 res.2 inR := by
  intro sz
  refine Met.ofAt (own := RX12) (QQ := fun z => QI g z res.1 res.2 inR) (by decide +kernel) (Nat.le_of_ble_eq_true rfl) rfl ?_
  intro p e s m args below meth c C hr hlk
  show At p l e rm_X12_own s m args below meth c 0 0 g 9 (MQ below (QI g s.heap.size res.1 res.2 inR) args s 0 0 (AA g s.heap.size)) 0 [(0, vr g 94), (1, vi v1), (2, vi v2), (3, vi v3), (4, vi v4)] [] σ
  unfold F_X12_own at hF
  refine at_aload_n (pc := 0) C 0 dX12_own_0 rfl rfl ?_
  refine at_iconst (pc := 1) C dX12_own_1 ?_
  refine at_puti (pc := 2) (jz := 2) C fu_12_81 kd94 rfl (Nat.le_of_ble_eq_true rfl) rfl rfl dX12_own_2 ?_
  refine at_aload_n (pc := 5) C 0 dX12_own_5 rfl rfl ?_
  refine at_iload_n (pc := 6) C 1 dX12_own_6 rfl rfl ?_
  obtain ⟨q1, eq1, hF⟩ := bind_some' hF
  refine at_callV (pc := 7) (ci := 12) C (c_X12_isMember l g N v1 (upI σ 94 2 0) q1 h1 (OK_up (k := 94) (j := 2) ok (isB.r (Or.inl rfl))) eq1) kv_X12_isMember w1727 kd94 rfl rfl rfl rfl (Nat.le_of_ble_eq_true rfl) ⟨rfl, rfl, (Nat.le_of_ble_eq_true rfl), (Nat.le_of_ble_eq_true rfl)⟩ dX12_own_7 (fun tq1 okq1 => ?_)
  refine at_if_eq (pc := 10) (tgt := 44) C (isB.r tq1) dX12_own_10 rfl (fun c2 => ?_) (fun c2 => ?_)
  · have hF := (if_pos c2).symm.trans hF
    refine at_iconst (pc := 44) C dX12_own_44 ?_
    obtain rfl := Option.some.inj hF
    exact at_iret (pc := 45) C hr hlk (show inR (-1) from ⟨by decide, by decide⟩) (OK_up (k := 94) (j := 2) ok (isB.r (Or.inl rfl))) dX12_own_45
  · have hF := (if_neg c2).symm.trans hF
    refine at_aload_n (pc := 13) C 0 dX12_own_13 rfl rfl ?_
    refine at_iload_n (pc := 14) C 2 dX12_own_14 rfl rfl ?_
    obtain ⟨q3, eq3, hF⟩ := bind_some' hF
    refine at_callV (pc := 15) (ci := 12) C (c_X12_isMember l g N v2 (upI σ 94 2 0) q3 h2 (OK_up (k := 94) (j := 2) ok (isB.r (Or.inl rfl))) eq3) kv_X12_isMember w1727 kd94 rfl rfl rfl rfl (Nat.le_of_ble_eq_true rfl) ⟨rfl, rfl, (Nat.le_of_ble_eq_true rfl), (Nat.le_of_ble_eq_true rfl)⟩ dX12_own_15 (fun tq3 okq3 => ?_)
    refine at_if_eq (pc := 18) (tgt := 44) C (isB.r tq3) dX12_own_18 rfl (fun c4 => ?_) (fun c4 => ?_)
    · have hF := (if_pos c4).symm.trans hF
      refine at_iconst (pc := 44) C dX12_own_44 ?_
      obtain rfl := Option.some.inj hF
      exact at_iret (pc := 45) C hr hlk (show inR (-1) from ⟨by decide, by decide⟩) (OK_up (k := 94) (j := 2) ok (isB.r (Or.inl rfl))) dX12_own_45
    · have hF := (if_neg c4).symm.trans hF
      refine at_iload_n (pc := 21) C 1 dX12_own_21 rfl rfl ?_
      refine at_iload_n (pc := 22) C 2 dX12_own_22 rfl rfl ?_
      refine at_icmp_ge (pc := 23) (tgt := 44) C h1 h2 dX12_own_23 rfl (fun c5 => ?_) (fun c5 => ?_)
      · have hF := (if_pos c5).symm.trans hF
        refine at_iconst (pc := 44) C dX12_own_44 ?_
        obtain rfl := Option.some.inj hF
        exact at_iret (pc := 45) C hr hlk (show inR (-1) from ⟨by decide, by decide⟩) (OK_up (k := 94) (j := 2) ok (isB.r (Or.inl rfl))) dX12_own_45
      · have hF := (if_neg c5).symm.trans hF
        refine at_iload_n (pc := 26) C 3 dX12_own_26 rfl rfl ?_
        refine at_iconst (pc := 27) C dX12_own_27 ?_
        refine at_bipush (pc := 28) C dX12_own_28 (by decide) ?_
        obtain ⟨q6, eq6, hF⟩ := bind_some' hF
        refine at_callS (pc := 30) C (c_X12_isIn l g N v3 0 100 (upI σ 94 2 0) q6 h3 (isB.r (Or.inl rfl)) (show inR 100 from ⟨by decide, by decide⟩) (OK_up (k := 94) (j := 2) ok (isB.r (Or.inl rfl))) eq6) ks_X12_isIn w1525 rfl rfl (Nat.le_of_ble_eq_true rfl) ⟨rfl, rfl, (Nat.le_of_ble_eq_true rfl), (Nat.le_of_ble_eq_true rfl)⟩ dX12_own_30 (fun tq6 okq6 => ?_)
        refine at_if_eq (pc := 33) (tgt := 44) C (isB.r tq6) dX12_own_33 rfl (fun c7 => ?_) (fun c7 => ?_)
        · have hF := (if_pos c7).symm.trans hF
          refine at_iconst (pc := 44) C dX12_own_44 ?_
          obtain rfl := Option.some.inj hF
          exact at_iret (pc := 45) C hr hlk (show inR (-1) from ⟨by decide, by decide⟩) (OK_up (k := 94) (j := 2) ok (isB.r (Or.inl rfl))) dX12_own_45
        · have hF := (if_neg c7).symm.trans hF
          refine at_iload (pc := 36) C 4 dX12_own_36 rfl ?_
          obtain ⟨q8, eq8, hF⟩ := bind_some' hF
          refine at_callS (pc := 38) C (c_X12_isDay l g N v4 (upI σ 94 2 0) q8 h4 (OK_up (k := 94) (j := 2) ok (isB.r (Or.inl rfl))) eq8) ks_X12_isDay w1731 rfl rfl (Nat.le_of_ble_eq_true rfl) ⟨rfl, rfl, (Nat.le_of_ble_eq_true rfl), (Nat.le_of_ble_eq_true rfl)⟩ dX12_own_38 (fun tq8 okq8 => ?_)
          refine at_if_ne (pc := 41) (tgt := 46) C (isB.r tq8) dX12_own_41 rfl (fun c9 => ?_) (fun c9 => ?_)
          · have hF := (if_neg c9).symm.trans hF
            refine at_aload_n (pc := 46) C 0 dX12_own_46 rfl rfl ?_
            refine at_bipush (pc := 47) C dX12_own_47 (by decide) ?_
            obtain ⟨q10, eq10, hF⟩ := bind_some' hF
            refine at_callV (pc := 49) (ci := 12) C (c_X12_of l g N 103 (upI σ 94 2 0) q10 (show inR 103 from ⟨by decide, by decide⟩) (OK_up (k := 94) (j := 2) ok (isB.r (Or.inl rfl))) eq10) kv_X12_of w1565 kd94 rfl rfl rfl rfl (Nat.le_of_ble_eq_true rfl) ⟨rfl, rfl, (Nat.le_of_ble_eq_true rfl), (Nat.le_of_ble_eq_true rfl)⟩ dX12_own_49 (fun tq10 okq10 => ?_)
            refine at_bipush (pc := 52) C dX12_own_52 (by decide) ?_
            refine at_icmp_ne (pc := 54) (tgt := 60) C tq10 (show inR 24 from ⟨by decide, by decide⟩) dX12_own_54 rfl (fun c11 => ?_) (fun c11 => ?_)
            · have hF := (if_neg c11).symm.trans hF
              refine at_aload_n (pc := 60) C 0 dX12_own_60 rfl rfl ?_
              refine at_iconst (pc := 61) C dX12_own_61 ?_
              refine at_iconst (pc := 62) C dX12_own_62 ?_
              obtain ⟨q12, eq12, hF⟩ := bind_some' hF
              refine at_callVv (pc := 63) (ci := 12) C (c_X12_copyBank l g N 0 1 (upI σ 94 2 0) q12 (isB.r (Or.inl rfl)) (isB.r (Or.inr rfl)) (OK_up (k := 94) (j := 2) ok (isB.r (Or.inl rfl))) eq12) kv_X12_copyBank w1557 kd94 rfl rfl rfl rfl (Nat.le_of_ble_eq_true rfl) ⟨rfl, rfl, (Nat.le_of_ble_eq_true rfl), (Nat.le_of_ble_eq_true rfl)⟩ dX12_own_63 (fun okq12 => ?_)
              refine at_aload_n (pc := 66) C 0 dX12_own_66 rfl rfl ?_
              refine at_iconst (pc := 67) C dX12_own_67 ?_
              refine at_puti (pc := 68) (jz := 24) C fu_12_148 kd94 rfl (Nat.le_of_ble_eq_true rfl) rfl rfl dX12_own_68 ?_
              refine at_aload_n (pc := 71) C 0 dX12_own_71 rfl rfl ?_
              refine at_iload_n (pc := 72) C 1 dX12_own_72 rfl rfl ?_
              refine at_iload_n (pc := 73) C 2 dX12_own_73 rfl rfl ?_
              refine at_iload_n (pc := 74) C 3 dX12_own_74 rfl rfl ?_
              refine at_iload (pc := 75) C 4 dX12_own_75 rfl ?_
              obtain ⟨q13, eq13, hF⟩ := bind_some' hF
              refine at_callVv (pc := 77) (ci := 12) C (c_X12_owned l g N v1 v2 v3 v4 (upI q12 94 24 1) q13 h1 h2 h3 h4 (OK_up (k := 94) (j := 24) okq12 (isB.r (Or.inr rfl))) eq13) kv_X12_owned w1734 kd94 rfl rfl rfl rfl (Nat.le_of_ble_eq_true rfl) ⟨rfl, rfl, (Nat.le_of_ble_eq_true rfl), (Nat.le_of_ble_eq_true rfl)⟩ dX12_own_77 (fun okq13 => ?_)
              refine at_aload_n (pc := 80) C 0 dX12_own_80 rfl rfl ?_
              refine at_aload_n (pc := 81) C 0 dX12_own_81 rfl rfl ?_
              refine at_getr (pc := 82) (k' := 100) C 6 fw_12_29 kd94 rfl (Nat.le_of_ble_eq_true rfl) rfl rfl dX12_own_82 ?_
              refine at_iconst (pc := 85) C dX12_own_85 ?_
              obtain ⟨b14, hF⟩ := inb_some hF
              refine at_iaload (pc := 86) C kd100 b14 dX12_own_86 ?_
              obtain ⟨q15, eq15, hF⟩ := bind_some' hF
              refine at_callVv (pc := 87) (ci := 12) C (c_X12_laysStretches l g N (q13.1 100 0) q13 q15 (okq13 100 0) okq13 eq15) kv_X12_laysStretches w1605 kd94 rfl rfl rfl rfl (Nat.le_of_ble_eq_true rfl) ⟨rfl, rfl, (Nat.le_of_ble_eq_true rfl), (Nat.le_of_ble_eq_true rfl)⟩ dX12_own_87 (fun okq15 => ?_)
              refine at_iconst (pc := 90) C dX12_own_90 ?_
              refine at_istore (pc := 91) (lv' := [(5, vi 1), (0, vr g 94), (1, vi v1), (2, vi v2), (3, vi v3), (4, vi v4)]) C dX12_own_91 (Nat.le_of_ble_eq_true rfl) rfl ?_
              refine at_iconst (pc := 93) C dX12_own_93 ?_
              refine at_istore (pc := 94) (lv' := [(6, vi 0), (5, vi 1), (0, vr g 94), (1, vi v1), (2, vi v2), (3, vi v3), (4, vi v4)]) C dX12_own_94 (Nat.le_of_ble_eq_true rfl) rfl ?_
              have L96 : ∀ (v1 : Int) (v2 : Int) (v3 : Int) (v4 : Int) (v5 : Int) (v6 : Int) (σ : Sto), inR v1 → inR v2 → inR v3 → inR v4 → isB v5 → inR v6 → OK σ → loopK (fun q nx96 => F_X12_own_B96 N  nx96 v1 v2 v3 v4 q.1 q.2 σ) N (v5, v6) = some res → At p l e rm_X12_own s m args below meth c 0 0 g 9 (MQ below (QI g s.heap.size res.1 res.2 inR) args s 0 0 (AA g s.heap.size)) 96 [(0, vr g 94), (1, vi v1), (2, vi v2), (3, vi v3), (4, vi v4), (5, vi v5), (6, vi v6)] [] σ := by
                intro v1 v2 v3 v4 v5 v6 σ h1 h2 h3 h4 h5 h6 ok hF
                refine loopK_ind (res := res) (P := fun (q : Int × Int) => isB q.1 → inR q.2 → At p l e rm_X12_own s m args below meth c 0 0 g 9 (MQ below (QI g s.heap.size res.1 res.2 inR) args s 0 0 (AA g s.heap.size)) 96 [(0, vr g 94), (1, vi v1), (2, vi v2), (3, vi v3), (4, vi v4), (5, vi q.1), (6, vi q.2)] [] σ) ?_ N _ hF h5 h6
                intro nx96 q ih96 hF
                obtain ⟨v5, v6⟩ := q
                intro h5 h6
                have hF : F_X12_own_B96 N  nx96 v1 v2 v3 v4 v5 v6 σ = some res := hF
                unfold F_X12_own_B96 at hF
                have J169 : ∀ (v1 : Int) (v2 : Int) (v3 : Int) (v4 : Int) (v5 : Int) (σ : Sto), inR v1 → inR v2 → inR v3 → inR v4 → isB v5 → OK σ → F_X12_own_J169 N  v1 v2 v3 v4 v5 σ = some res → At p l e rm_X12_own s m args below meth c 0 0 g 9 (MQ below (QI g s.heap.size res.1 res.2 inR) args s 0 0 (AA g s.heap.size)) 169 [(0, vr g 94), (1, vi v1), (2, vi v2), (3, vi v3), (4, vi v4), (5, vi v5)] [] σ := by
                  intro v1 v2 v3 v4 v5 σ h1 h2 h3 h4 h5 ok hF
                  unfold F_X12_own_J169 at hF
                  refine at_aload_n (pc := 169) C 0 dX12_own_169 rfl rfl ?_
                  refine at_iconst (pc := 170) C dX12_own_170 ?_
                  refine at_puti (pc := 171) (jz := 24) C fu_12_148 kd94 rfl (Nat.le_of_ble_eq_true rfl) rfl rfl dX12_own_171 ?_
                  refine at_iload (pc := 174) C 5 dX12_own_174 rfl ?_
                  refine at_if_ne (pc := 176) (tgt := 182) C (isB.r h5) dX12_own_176 rfl (fun c16 => ?_) (fun c16 => ?_)
                  · have hF := (if_neg c16).symm.trans hF
                    refine at_aload_n (pc := 182) C 0 dX12_own_182 rfl rfl ?_
                    obtain ⟨q17, eq17, hF⟩ := bind_some' hF
                    refine at_callVv (pc := 183) (ci := 12) C (c_X12_canUndo l g N  (upI σ 94 24 0) q17  (OK_up (k := 94) (j := 24) ok (isB.r (Or.inl rfl))) eq17) kv_X12_canUndo w1654 kd94 rfl rfl rfl rfl (Nat.le_of_ble_eq_true rfl) ⟨rfl, rfl, (Nat.le_of_ble_eq_true rfl), (Nat.le_of_ble_eq_true rfl)⟩ dX12_own_183 (fun okq17 => ?_)
                    refine at_aload_n (pc := 186) C 0 dX12_own_186 rfl rfl ?_
                    refine at_iload_n (pc := 187) C 1 dX12_own_187 rfl rfl ?_
                    refine at_iload_n (pc := 188) C 2 dX12_own_188 rfl rfl ?_
                    refine at_iload_n (pc := 189) C 3 dX12_own_189 rfl rfl ?_
                    refine at_iload (pc := 190) C 4 dX12_own_190 rfl ?_
                    obtain ⟨q18, eq18, hF⟩ := bind_some' hF
                    refine at_callVv (pc := 192) (ci := 12) C (c_X12_owned l g N v1 v2 v3 v4 q17 q18 h1 h2 h3 h4 okq17 eq18) kv_X12_owned w1734 kd94 rfl rfl rfl rfl (Nat.le_of_ble_eq_true rfl) ⟨rfl, rfl, (Nat.le_of_ble_eq_true rfl), (Nat.le_of_ble_eq_true rfl)⟩ dX12_own_192 (fun okq18 => ?_)
                    refine at_aload_n (pc := 195) C 0 dX12_own_195 rfl rfl ?_
                    refine at_bipush (pc := 196) C dX12_own_196 (by decide) ?_
                    obtain ⟨q19, eq19, hF⟩ := bind_some' hF
                    refine at_callV (pc := 198) (ci := 12) C (c_X12_of l g N 103 q18 q19 (show inR 103 from ⟨by decide, by decide⟩) okq18 eq19) kv_X12_of w1565 kd94 rfl rfl rfl rfl (Nat.le_of_ble_eq_true rfl) ⟨rfl, rfl, (Nat.le_of_ble_eq_true rfl), (Nat.le_of_ble_eq_true rfl)⟩ dX12_own_198 (fun tq19 okq19 => ?_)
                    obtain rfl := Option.some.inj hF
                    exact at_iret (pc := 201) C hr hlk tq19 okq18 dX12_own_201
                  · have hF := (if_pos c16).symm.trans hF
                    refine at_bipush (pc := 179) C dX12_own_179 (by decide) ?_
                    obtain rfl := Option.some.inj hF
                    exact at_iret (pc := 181) C hr hlk (show inR (-3) from ⟨by decide, by decide⟩) (OK_up (k := 94) (j := 24) ok (isB.r (Or.inl rfl))) dX12_own_181
                refine at_iload (pc := 96) C 6 dX12_own_96 rfl ?_
                refine at_aload_n (pc := 98) C 0 dX12_own_98 rfl rfl ?_
                refine at_iconst (pc := 99) C dX12_own_99 ?_
                obtain ⟨q20, eq20, hF⟩ := bind_some' hF
                refine at_callV (pc := 100) (ci := 12) C (c_X12_of l g N 0 σ q20 (isB.r (Or.inl rfl)) ok eq20) kv_X12_of w1565 kd94 rfl rfl rfl rfl (Nat.le_of_ble_eq_true rfl) ⟨rfl, rfl, (Nat.le_of_ble_eq_true rfl), (Nat.le_of_ble_eq_true rfl)⟩ dX12_own_100 (fun tq20 okq20 => ?_)
                refine at_icmp_ge (pc := 103) (tgt := 169) C h6 tq20 dX12_own_103 rfl (fun c21 => ?_) (fun c21 => ?_)
                · have hF := (if_pos c21).symm.trans hF
                  refine at_sub (lv' := [(0, vr g 94), (1, vi v1), (2, vi v2), (3, vi v3), (4, vi v4), (5, vi v5)]) [0, 1, 2, 3, 4, 5] rfl ?_
                  exact J169 v1 v2 v3 v4 v5 σ h1 h2 h3 h4 h5 ok hF
                · have hF := (if_neg c21).symm.trans hF
                  have J161 : ∀ (v6 : Int) (t0 : Int), inR v6 → isB t0 → F_X12_own_J161 N nx96 v1 v2 v3 v4 v6 t0 σ = some res → At p l e rm_X12_own s m args below meth c 0 0 g 9 (MQ below (QI g s.heap.size res.1 res.2 inR) args s 0 0 (AA g s.heap.size)) 161 [(0, vr g 94), (1, vi v1), (2, vi v2), (3, vi v3), (4, vi v4), (6, vi v6)] [vi t0] σ := by
                    intro v6 t0 h6 ht0 hF
                    unfold F_X12_own_J161 at hF
                    refine at_istore (pc := 161) (lv' := [(5, vi t0), (0, vr g 94), (1, vi v1), (2, vi v2), (3, vi v3), (4, vi v4), (6, vi v6)]) C dX12_own_161 (Nat.le_of_ble_eq_true rfl) rfl ?_
                    refine at_iinc (pc := 163) (lv' := [(6, vi (ja v6 1)), (5, vi t0), (0, vr g 94), (1, vi v1), (2, vi v2), (3, vi v3), (4, vi v4)]) C 6 dX12_own_163 rfl (Nat.le_of_ble_eq_true rfl) rfl ?_
                    refine at_goto (pc := 166) (tgt := 96) C dX12_own_166 rfl ?_
                    refine at_sub (lv' := [(0, vr g 94), (1, vi v1), (2, vi v2), (3, vi v3), (4, vi v4), (5, vi t0), (6, vi (ja v6 1))]) [2, 3, 4, 5, 6, 1, 0] rfl ?_
                    exact ih96 _ hF ht0 (ja_R v6 1)
                  have J160 : ∀ (v6 : Int), inR v6 → F_X12_own_J160 N nx96 v1 v2 v3 v4 v6 σ = some res → At p l e rm_X12_own s m args below meth c 0 0 g 9 (MQ below (QI g s.heap.size res.1 res.2 inR) args s 0 0 (AA g s.heap.size)) 160 [(0, vr g 94), (1, vi v1), (2, vi v2), (3, vi v3), (4, vi v4), (6, vi v6)] [] σ := by
                    intro v6 h6 hF
                    unfold F_X12_own_J160 at hF
                    refine at_iconst (pc := 160) C dX12_own_160 ?_
                    exact J161 v6 0 h6 (Or.inl rfl) hF
                  refine at_aload_n (pc := 106) C 0 dX12_own_106 rfl rfl ?_
                  refine at_iconst (pc := 107) C dX12_own_107 ?_
                  refine at_iconst (pc := 108) C dX12_own_108 ?_
                  refine at_iload (pc := 109) C 6 dX12_own_109 rfl ?_
                  refine at_imul (pc := 111) C dX12_own_111 ?_
                  refine at_iadd (pc := 112) C dX12_own_112 ?_
                  obtain ⟨q22, eq22, hF⟩ := bind_some' hF
                  refine at_callV (pc := 113) (ci := 12) C (c_X12_of l g N (ja 1 (jm 3 v6)) σ q22 (ja_R 1 (jm 3 v6)) ok eq22) kv_X12_of w1565 kd94 rfl rfl rfl rfl (Nat.le_of_ble_eq_true rfl) ⟨rfl, rfl, (Nat.le_of_ble_eq_true rfl), (Nat.le_of_ble_eq_true rfl)⟩ dX12_own_113 (fun tq22 okq22 => ?_)
                  refine at_istore (pc := 116) (lv' := [(7, vi q22), (0, vr g 94), (1, vi v1), (2, vi v2), (3, vi v3), (4, vi v4), (5, vi v5), (6, vi v6)]) C dX12_own_116 (Nat.le_of_ble_eq_true rfl) rfl ?_
                  refine at_aload_n (pc := 118) C 1 dX12_own_118 rfl rfl ?_
                  refine at_iconst (pc := 119) C dX12_own_119 ?_
                  refine at_iconst (pc := 120) C dX12_own_120 ?_
                  refine at_iload (pc := 121) C 7 dX12_own_121 rfl ?_
                  refine at_imul (pc := 123) C dX12_own_123 ?_
                  refine at_iadd (pc := 124) C dX12_own_124 ?_
                  refine at_iconst (pc := 125) C dX12_own_125 ?_
                  refine at_iadd (pc := 126) C dX12_own_126 ?_
                  obtain ⟨q23, eq23, hF⟩ := bind_some' hF
                  refine at_callV (pc := 127) (ci := 12) C (c_X12_of l g N (ja (ja 1 (jm 3 v6)) 1) σ q23 (ja_R (ja 1 (jm 3 v6)) 1) ok eq23) kv_X12_of w1565 kd94 rfl rfl rfl rfl (Nat.le_of_ble_eq_true rfl) ⟨rfl, rfl, (Nat.le_of_ble_eq_true rfl), (Nat.le_of_ble_eq_true rfl)⟩ dX12_own_127 (fun tq23 okq23 => ?_)
                  refine at_istore (pc := 130) (lv' := [(8, vi q23), (7, vi q22), (0, vr g 94), (1, vi v1), (2, vi v2), (3, vi v3), (4, vi v4), (5, vi v5), (6, vi v6)]) C dX12_own_130 (Nat.le_of_ble_eq_true rfl) rfl ?_
                  refine at_iload (pc := 132) C 7 dX12_own_132 rfl ?_
                  refine at_if_eq (pc := 134) (tgt := 160) C (isB.r h5) dX12_own_134 rfl (fun c24 => ?_) (fun c24 => ?_)
                  · have hF := (if_pos c24).symm.trans hF
                    refine at_sub (lv' := [(0, vr g 94), (1, vi v1), (2, vi v2), (3, vi v3), (4, vi v4), (6, vi v6)]) [2, 3, 4, 5, 6, 8] rfl ?_
                    exact J160 v6 h6 hF
                  · have hF := (if_neg c24).symm.trans hF
                    refine at_aload_n (pc := 137) C 2 dX12_own_137 rfl rfl ?_
                    refine at_iload (pc := 138) C 1 dX12_own_138 rfl ?_
                    refine at_iload (pc := 140) C 0 dX12_own_140 rfl ?_
                    obtain ⟨q25, eq25, hF⟩ := bind_some' hF
                    refine at_callV (pc := 142) (ci := 12) C (c_X12_claimedBy l g N q22 q23 σ q25 tq22 tq23 ok eq25) kv_X12_claimedBy w1642 kd94 rfl rfl rfl rfl (Nat.le_of_ble_eq_true rfl) ⟨rfl, rfl, (Nat.le_of_ble_eq_true rfl), (Nat.le_of_ble_eq_true rfl)⟩ dX12_own_142 (fun tq25 okq25 => ?_)
                    refine at_aload_n (pc := 145) C 2 dX12_own_145 rfl rfl ?_
                    refine at_iload (pc := 146) C 1 dX12_own_146 rfl ?_
                    refine at_iload (pc := 148) C 0 dX12_own_148 rfl ?_
                    obtain ⟨q26, eq26, hF⟩ := bind_some' hF
                    refine at_callV (pc := 150) (ci := 12) C (c_X12_boundOf l g N q22 q23 σ q26 tq22 tq23 ok eq26) kv_X12_boundOf w1630 kd94 rfl rfl rfl rfl (Nat.le_of_ble_eq_true rfl) ⟨rfl, rfl, (Nat.le_of_ble_eq_true rfl), (Nat.le_of_ble_eq_true rfl)⟩ dX12_own_150 (fun tq26 okq26 => ?_)
                    refine at_icmp_gt (pc := 153) (tgt := 160) C tq25 tq26 dX12_own_153 rfl (fun c27 => ?_) (fun c27 => ?_)
                    · have hF := (if_pos c27).symm.trans hF
                      refine at_sub (lv' := [(0, vr g 94), (1, vi v1), (2, vi v2), (3, vi v3), (4, vi v4), (6, vi v6)]) [2, 3, 4, 5, 6, 8] rfl ?_
                      exact J160 v6 h6 hF
                    · have hF := (if_neg c27).symm.trans hF
                      refine at_iconst (pc := 156) C dX12_own_156 ?_
                      refine at_goto (pc := 157) (tgt := 161) C dX12_own_157 rfl ?_
                      refine at_sub (lv' := [(0, vr g 94), (1, vi v1), (2, vi v2), (3, vi v3), (4, vi v4), (6, vi v6)]) [2, 3, 4, 5, 6, 8] rfl ?_
                      exact J161 v6 1 h6 (Or.inr rfl) hF
              refine at_sub (lv' := [(0, vr g 94), (1, vi v1), (2, vi v2), (3, vi v3), (4, vi v4), (5, vi 1), (6, vi 0)]) [2, 3, 4, 5, 6, 1, 0] rfl ?_
              exact L96 v1 v2 v3 v4 1 0 q15 h1 h2 h3 h4 (Or.inr rfl) (isB.r (Or.inl rfl)) okq15 hF
            · have hF := (if_pos c11).symm.trans hF
              refine at_bipush (pc := 57) C dX12_own_57 (by decide) ?_
              obtain rfl := Option.some.inj hF
              exact at_iret (pc := 59) C hr hlk (show inR (-2) from ⟨by decide, by decide⟩) (OK_up (k := 94) (j := 2) ok (isB.r (Or.inl rfl))) dX12_own_59
          · have hF := (if_pos c9).symm.trans hF
            refine at_iconst (pc := 44) C dX12_own_44 ?_
            obtain rfl := Option.some.inj hF
            exact at_iret (pc := 45) C hr hlk (show inR (-1) from ⟨by decide, by decide⟩) (OK_up (k := 94) (j := 2) ok (isB.r (Or.inl rfl))) dX12_own_45
abbrev rm_X12_fails : Room := { frames := 0, cells := 0, slots := 0, locals := 0 }
def F_X12_fails (N : Nat) (v1 : Int) (σ : Sto) : Option (Int × Sto) :=
  some (0, (upI σ 94 2 v1))
set_option maxHeartbeats 4000000 in
set_option maxRecDepth 100000 in
theorem c_X12_fails (l : Launch) (g : Geo) (N : Nat) (v1 : Int) (σ : Sto) (res : Int × Sto) (h1 : inR v1) (ok : OK σ) (hF : F_X12_fails N v1 σ = some res) : MtI l g yX12_fails cX12_fails 2 (some .int) rm_X12_fails [vr g 94, vi v1] σ res.1 res.2 inR := by
  intro sz
  refine Met.ofAt (own := RX12) (QQ := fun z => QI g z res.1 res.2 inR) (by decide +kernel) (Nat.le_of_ble_eq_true rfl) rfl ?_
  intro p e s m args below meth c C hr hlk
  show At p l e rm_X12_fails s m args below meth c 0 0 g 2 (MQ below (QI g s.heap.size res.1 res.2 inR) args s 0 0 (AA g s.heap.size)) 0 [(0, vr g 94), (1, vi v1)] [] σ
  unfold F_X12_fails at hF
  refine at_aload_n (pc := 0) C 0 dX12_fails_0 rfl rfl ?_
  refine at_iload_n (pc := 1) C 1 dX12_fails_1 rfl rfl ?_
  refine at_puti (pc := 2) (jz := 2) C fu_12_81 kd94 rfl (Nat.le_of_ble_eq_true rfl) rfl rfl dX12_fails_2 ?_
  refine at_iconst (pc := 5) C dX12_fails_5 ?_
  obtain rfl := Option.some.inj hF
  exact at_iret (pc := 6) C hr hlk (isB.r (Or.inl rfl)) (OK_up (k := 94) (j := 2) ok h1) dX12_fails_6
abbrev rm_X12_member : Room := { frames := 1, cells := 0, slots := 0, locals := 22 }
def F_X12_member_J85 (N : Nat) (nx57 : (Int × Int) → Option (Int × Sto)) (v1 : Int) (v4 : Int) (t0 : Int) (t1 : Int) (σ : Sto) : Option (Int × Sto) :=
  nx57 ((jor t0 t1), (ja v4 1))
def F_X12_member_B57 (N : Nat) (nx57 : (Int × Int) → Option (Int × Sto)) (v1 : Int) (v3 : Int) (v4 : Int) (σ : Sto) : Option (Int × Sto) :=
  if (σ.1 94 14) ≤ v4 then (some (v3, σ)) else ((F_X12_memberOf N v4 σ).bind (fun q7 => if q7 = v1 then (F_X12_member_J85 N nx57 v1 v4 v3 (jshl 1 v4) σ) else (F_X12_member_J85 N nx57 v1 v4 v3 0 σ)))
def F_X12_member (N : Nat) (v1 : Int) (v2 : Int) (σ : Sto) : Option (Int × Sto) :=
  (F_X12_isMember N v1 (upI σ 94 2 0)).bind (fun q1 => if q1 = 0 then ((F_X12_fails N 1 (upI σ 94 2 0)).bind (fun q11 => some (q11.1, q11.2))) else ((F_X12_isIn N v2 0 2 (upI σ 94 2 0)).bind (fun q3 => if q3 = 0 then ((F_X12_fails N 2 (upI σ 94 2 0)).bind (fun q10 => some (q10.1, q10.2))) else (if 2 ≤ v2 then (loopK (fun q nx57 => F_X12_member_B57 N  nx57 v1 q.1 q.2 (upI σ 94 2 0)) N (0, 0)) else (inb (ja (ja (jm 3 v1) 1) v2) 48 (some (((upI σ 94 2 0).1 97 (ja (ja (jm 3 v1) 1) v2)), (upI σ 94 2 0))))))))
set_option maxHeartbeats 4000000 in
set_option maxRecDepth 100000 in
theorem c_X12_member (l : Launch) (g : Geo) (N : Nat) (v1 : Int) (v2 : Int) (σ : Sto) (res : Int × Sto) (h1 : inR v1) (h2 : inR v2) (ok : OK σ) (hF : F_X12_member N v1 v2 σ = some res) : MtI l g yX12_member cX12_member 5 (some .int) rm_X12_member [vr g 94, vi v1, vi v2] σ res.1 res.2 inR := by
  intro sz
  refine Met.ofAt (own := RX12) (QQ := fun z => QI g z res.1 res.2 inR) (by decide +kernel) (Nat.le_of_ble_eq_true rfl) rfl ?_
  intro p e s m args below meth c C hr hlk
  show At p l e rm_X12_member s m args below meth c 0 0 g 5 (MQ below (QI g s.heap.size res.1 res.2 inR) args s 0 0 (AA g s.heap.size)) 0 [(0, vr g 94), (1, vi v1), (2, vi v2)] [] σ
  unfold F_X12_member at hF
  refine at_aload_n (pc := 0) C 0 dX12_member_0 rfl rfl ?_
  refine at_iconst (pc := 1) C dX12_member_1 ?_
  refine at_puti (pc := 2) (jz := 2) C fu_12_81 kd94 rfl (Nat.le_of_ble_eq_true rfl) rfl rfl dX12_member_2 ?_
  refine at_aload_n (pc := 5) C 0 dX12_member_5 rfl rfl ?_
  refine at_iload_n (pc := 6) C 1 dX12_member_6 rfl rfl ?_
  obtain ⟨q1, eq1, hF⟩ := bind_some' hF
  refine at_callV (pc := 7) (ci := 12) C (c_X12_isMember l g N v1 (upI σ 94 2 0) q1 h1 (OK_up (k := 94) (j := 2) ok (isB.r (Or.inl rfl))) eq1) kv_X12_isMember w1727 kd94 rfl rfl rfl rfl (Nat.le_of_ble_eq_true rfl) ⟨rfl, rfl, (Nat.le_of_ble_eq_true rfl), (Nat.le_of_ble_eq_true rfl)⟩ dX12_member_7 (fun tq1 okq1 => ?_)
  refine at_if_ne (pc := 10) (tgt := 19) C (isB.r tq1) dX12_member_10 rfl (fun c2 => ?_) (fun c2 => ?_)
  · have hF := (if_neg c2).symm.trans hF
    refine at_iload_n (pc := 19) C 2 dX12_member_19 rfl rfl ?_
    refine at_iconst (pc := 20) C dX12_member_20 ?_
    refine at_iconst (pc := 21) C dX12_member_21 ?_
    obtain ⟨q3, eq3, hF⟩ := bind_some' hF
    refine at_callS (pc := 22) C (c_X12_isIn l g N v2 0 2 (upI σ 94 2 0) q3 h2 (isB.r (Or.inl rfl)) (show inR 2 from ⟨by decide, by decide⟩) (OK_up (k := 94) (j := 2) ok (isB.r (Or.inl rfl))) eq3) ks_X12_isIn w1525 rfl rfl (Nat.le_of_ble_eq_true rfl) ⟨rfl, rfl, (Nat.le_of_ble_eq_true rfl), (Nat.le_of_ble_eq_true rfl)⟩ dX12_member_22 (fun tq3 okq3 => ?_)
    refine at_if_ne (pc := 25) (tgt := 34) C (isB.r tq3) dX12_member_25 rfl (fun c4 => ?_) (fun c4 => ?_)
    · have hF := (if_neg c4).symm.trans hF
      refine at_iload_n (pc := 34) C 2 dX12_member_34 rfl rfl ?_
      refine at_iconst (pc := 35) C dX12_member_35 ?_
      refine at_icmp_ge (pc := 36) (tgt := 52) C h2 (show inR 2 from ⟨by decide, by decide⟩) dX12_member_36 rfl (fun c5 => ?_) (fun c5 => ?_)
      · have hF := (if_pos c5).symm.trans hF
        refine at_iconst (pc := 52) C dX12_member_52 ?_
        refine at_istore_n (pc := 53) (lv' := [(3, vi 0), (0, vr g 94), (1, vi v1), (2, vi v2)]) C dX12_member_53 rfl (Nat.le_of_ble_eq_true rfl) rfl ?_
        refine at_iconst (pc := 54) C dX12_member_54 ?_
        refine at_istore (pc := 55) (lv' := [(4, vi 0), (3, vi 0), (0, vr g 94), (1, vi v1), (2, vi v2)]) C dX12_member_55 (Nat.le_of_ble_eq_true rfl) rfl ?_
        have L57 : ∀ (v1 : Int) (v3 : Int) (v4 : Int) (σ : Sto), inR v1 → inR v3 → inR v4 → OK σ → loopK (fun q nx57 => F_X12_member_B57 N  nx57 v1 q.1 q.2 σ) N (v3, v4) = some res → At p l e rm_X12_member s m args below meth c 0 0 g 5 (MQ below (QI g s.heap.size res.1 res.2 inR) args s 0 0 (AA g s.heap.size)) 57 [(0, vr g 94), (1, vi v1), (3, vi v3), (4, vi v4)] [] σ := by
          intro v1 v3 v4 σ h1 h3 h4 ok hF
          refine loopK_ind (res := res) (P := fun (q : Int × Int) => inR q.1 → inR q.2 → At p l e rm_X12_member s m args below meth c 0 0 g 5 (MQ below (QI g s.heap.size res.1 res.2 inR) args s 0 0 (AA g s.heap.size)) 57 [(0, vr g 94), (1, vi v1), (3, vi q.1), (4, vi q.2)] [] σ) ?_ N _ hF h3 h4
          intro nx57 q ih57 hF
          obtain ⟨v3, v4⟩ := q
          intro h3 h4
          have hF : F_X12_member_B57 N  nx57 v1 v3 v4 σ = some res := hF
          unfold F_X12_member_B57 at hF
          refine at_iload (pc := 57) C 3 dX12_member_57 rfl ?_
          refine at_aload_n (pc := 59) C 0 dX12_member_59 rfl rfl ?_
          refine at_geti (pc := 60) (jz := 14) C fw_12_135 kd94 rfl (Nat.le_of_ble_eq_true rfl) rfl rfl dX12_member_60 ?_
          refine at_icmp_ge (pc := 63) (tgt := 93) C h4 (ok 94 14) dX12_member_63 rfl (fun c6 => ?_) (fun c6 => ?_)
          · have hF := (if_pos c6).symm.trans hF
            refine at_iload_n (pc := 93) C 2 dX12_member_93 rfl rfl ?_
            obtain rfl := Option.some.inj hF
            exact at_iret (pc := 94) C hr hlk h3 ok dX12_member_94
          · have hF := (if_neg c6).symm.trans hF
            have J85 : ∀ (v4 : Int) (t0 : Int) (t1 : Int), inR v4 → inR t0 → inR t1 → F_X12_member_J85 N nx57 v1 v4 t0 t1 σ = some res → At p l e rm_X12_member s m args below meth c 0 0 g 5 (MQ below (QI g s.heap.size res.1 res.2 inR) args s 0 0 (AA g s.heap.size)) 85 [(0, vr g 94), (1, vi v1), (4, vi v4)] [vi t1, vi t0] σ := by
              intro v4 t0 t1 h4 ht0 ht1 hF
              unfold F_X12_member_J85 at hF
              refine at_ior (pc := 85) C dX12_member_85 ?_
              refine at_istore_n (pc := 86) (lv' := [(3, vi (jor t0 t1)), (0, vr g 94), (1, vi v1), (4, vi v4)]) C dX12_member_86 rfl (Nat.le_of_ble_eq_true rfl) rfl ?_
              refine at_iinc (pc := 87) (lv' := [(4, vi (ja v4 1)), (3, vi (jor t0 t1)), (0, vr g 94), (1, vi v1)]) C 3 dX12_member_87 rfl (Nat.le_of_ble_eq_true rfl) rfl ?_
              refine at_goto (pc := 90) (tgt := 57) C dX12_member_90 rfl ?_
              refine at_sub (lv' := [(0, vr g 94), (1, vi v1), (3, vi (jor t0 t1)), (4, vi (ja v4 1))]) [2, 3, 1, 0] rfl ?_
              exact ih57 _ hF (jor_R t0 t1) (ja_R v4 1)
            refine at_iload_n (pc := 66) C 2 dX12_member_66 rfl rfl ?_
            refine at_aload_n (pc := 67) C 0 dX12_member_67 rfl rfl ?_
            refine at_iload (pc := 68) C 3 dX12_member_68 rfl ?_
            obtain ⟨q7, eq7, hF⟩ := bind_some' hF
            refine at_callV (pc := 70) (ci := 12) C (c_X12_memberOf l g N v4 σ q7 h4 ok eq7) kv_X12_memberOf w1593 kd94 rfl rfl rfl rfl (Nat.le_of_ble_eq_true rfl) ⟨rfl, rfl, (Nat.le_of_ble_eq_true rfl), (Nat.le_of_ble_eq_true rfl)⟩ dX12_member_70 (fun tq7 okq7 => ?_)
            refine at_iload_n (pc := 73) C 1 dX12_member_73 rfl rfl ?_
            refine at_icmp_ne (pc := 74) (tgt := 84) C tq7 h1 dX12_member_74 rfl (fun c8 => ?_) (fun c8 => ?_)
            · have hF := (if_neg c8).symm.trans hF
              refine at_iconst (pc := 84) C dX12_member_84 ?_
              refine at_sub (lv' := [(0, vr g 94), (1, vi v1), (4, vi v4)]) [0, 1, 3] rfl ?_
              exact J85 v4 v3 0 h4 h3 (isB.r (Or.inl rfl)) hF
            · have hF := (if_pos c8).symm.trans hF
              refine at_iconst (pc := 77) C dX12_member_77 ?_
              refine at_iload (pc := 78) C 3 dX12_member_78 rfl ?_
              refine at_ishl (pc := 80) C dX12_member_80 ?_
              refine at_goto (pc := 81) (tgt := 85) C dX12_member_81 rfl ?_
              refine at_sub (lv' := [(0, vr g 94), (1, vi v1), (4, vi v4)]) [0, 1, 3] rfl ?_
              exact J85 v4 v3 (jshl 1 v4) h4 h3 (jshl_R 1 v4) hF
        refine at_sub (lv' := [(0, vr g 94), (1, vi v1), (3, vi 0), (4, vi 0)]) [2, 3, 1, 0] rfl ?_
        exact L57 v1 0 0 (upI σ 94 2 0) h1 (isB.r (Or.inl rfl)) (isB.r (Or.inl rfl)) (OK_up (k := 94) (j := 2) ok (isB.r (Or.inl rfl))) hF
      · have hF := (if_neg c5).symm.trans hF
        refine at_aload_n (pc := 39) C 0 dX12_member_39 rfl rfl ?_
        refine at_getr (pc := 40) (k' := 97) C 3 fw_12_20 kd94 rfl (Nat.le_of_ble_eq_true rfl) rfl rfl dX12_member_40 ?_
        refine at_iconst (pc := 43) C dX12_member_43 ?_
        refine at_iload_n (pc := 44) C 1 dX12_member_44 rfl rfl ?_
        refine at_imul (pc := 45) C dX12_member_45 ?_
        refine at_iconst (pc := 46) C dX12_member_46 ?_
        refine at_iadd (pc := 47) C dX12_member_47 ?_
        refine at_iload_n (pc := 48) C 2 dX12_member_48 rfl rfl ?_
        refine at_iadd (pc := 49) C dX12_member_49 ?_
        obtain ⟨b9, hF⟩ := inb_some hF
        refine at_iaload (pc := 50) C kd97 b9 dX12_member_50 ?_
        obtain rfl := Option.some.inj hF
        exact at_iret (pc := 51) C hr hlk (show inR ((upI σ 94 2 0).1 97 (ja (ja (jm 3 v1) 1) v2)) from ((OK_up (k := 94) (j := 2) ok (isB.r (Or.inl rfl))) 97 (ja (ja (jm 3 v1) 1) v2))) (OK_up (k := 94) (j := 2) ok (isB.r (Or.inl rfl))) dX12_member_51
    · have hF := (if_pos c4).symm.trans hF
      refine at_aload_n (pc := 28) C 0 dX12_member_28 rfl rfl ?_
      refine at_iconst (pc := 29) C dX12_member_29 ?_
      obtain ⟨q10, eq10, hF⟩ := bind_some' hF
      refine at_callV (pc := 30) (ci := 12) C (c_X12_fails l g N 2 (upI σ 94 2 0) q10 (show inR 2 from ⟨by decide, by decide⟩) (OK_up (k := 94) (j := 2) ok (isB.r (Or.inl rfl))) eq10) kv_X12_fails w1742 kd94 rfl rfl rfl rfl (Nat.le_of_ble_eq_true rfl) ⟨rfl, rfl, (Nat.le_of_ble_eq_true rfl), (Nat.le_of_ble_eq_true rfl)⟩ dX12_member_30 (fun tq10 okq10 => ?_)
      obtain rfl := Option.some.inj hF
      exact at_iret (pc := 33) C hr hlk tq10 okq10 dX12_member_33
  · have hF := (if_pos c2).symm.trans hF
    refine at_aload_n (pc := 13) C 0 dX12_member_13 rfl rfl ?_
    refine at_iconst (pc := 14) C dX12_member_14 ?_
    obtain ⟨q11, eq11, hF⟩ := bind_some' hF
    refine at_callV (pc := 15) (ci := 12) C (c_X12_fails l g N 1 (upI σ 94 2 0) q11 (isB.r (Or.inr rfl)) (OK_up (k := 94) (j := 2) ok (isB.r (Or.inl rfl))) eq11) kv_X12_fails w1742 kd94 rfl rfl rfl rfl (Nat.le_of_ble_eq_true rfl) ⟨rfl, rfl, (Nat.le_of_ble_eq_true rfl), (Nat.le_of_ble_eq_true rfl)⟩ dX12_member_15 (fun tq11 okq11 => ?_)
    obtain rfl := Option.some.inj hF
    exact at_iret (pc := 18) C hr hlk tq11 okq11 dX12_member_18
abbrev rm_X12_period : Room := { frames := 3, cells := 0, slots := 0, locals := 66 }
def F_X12_period (N : Nat) (v1 : Int) (v2 : Int) (σ : Sto) : Option (Int × Sto) :=
  (F_X12_isPeriod N v1 (upI σ 94 2 0)).bind (fun q1 => if q1 = 0 then (some ((-999999), (upI σ 94 2 0))) else ((F_X12_isIn N v2 0 5 (upI σ 94 2 0)).bind (fun q3 => if q3 = 0 then (some ((-999999), (upI σ 94 2 0))) else (if 3 ≤ v2 then (if v2 = 3 then ((F_X12_result N v1 (upI σ 94 2 0)).bind (fun q10 => some (q10, (upI σ 94 2 0)))) else (if v2 = 4 then ((F_X12_openOf N v1 (upI σ 94 2 0)).bind (fun q9 => some (q9, (upI σ 94 2 0)))) else ((F_X12_claimedOf N v1 (upI σ 94 2 0)).bind (fun q8 => some (q8, (upI σ 94 2 0)))))) else (inb (ja (jm 4 v1) v2) 96 (some (((upI σ 94 2 0).1 98 (ja (jm 4 v1) v2)), (upI σ 94 2 0))))))))
set_option maxHeartbeats 4000000 in
set_option maxRecDepth 100000 in
theorem c_X12_period (l : Launch) (g : Geo) (N : Nat) (v1 : Int) (v2 : Int) (σ : Sto) (res : Int × Sto) (h1 : inR v1) (h2 : inR v2) (ok : OK σ) (hF : F_X12_period N v1 v2 σ = some res) : MtI l g yX12_period cX12_period 3 (some .int) rm_X12_period [vr g 94, vi v1, vi v2] σ res.1 res.2 inR := by
  intro sz
  refine Met.ofAt (own := RX12) (QQ := fun z => QI g z res.1 res.2 inR) (by decide +kernel) (Nat.le_of_ble_eq_true rfl) rfl ?_
  intro p e s m args below meth c C hr hlk
  show At p l e rm_X12_period s m args below meth c 0 0 g 3 (MQ below (QI g s.heap.size res.1 res.2 inR) args s 0 0 (AA g s.heap.size)) 0 [(0, vr g 94), (1, vi v1), (2, vi v2)] [] σ
  unfold F_X12_period at hF
  refine at_aload_n (pc := 0) C 0 dX12_period_0 rfl rfl ?_
  refine at_iconst (pc := 1) C dX12_period_1 ?_
  refine at_puti (pc := 2) (jz := 2) C fu_12_81 kd94 rfl (Nat.le_of_ble_eq_true rfl) rfl rfl dX12_period_2 ?_
  refine at_aload_n (pc := 5) C 0 dX12_period_5 rfl rfl ?_
  refine at_iload_n (pc := 6) C 1 dX12_period_6 rfl rfl ?_
  obtain ⟨q1, eq1, hF⟩ := bind_some' hF
  refine at_callV (pc := 7) (ci := 12) C (c_X12_isPeriod l g N v1 (upI σ 94 2 0) q1 h1 (OK_up (k := 94) (j := 2) ok (isB.r (Or.inl rfl))) eq1) kv_X12_isPeriod w1581 kd94 rfl rfl rfl rfl (Nat.le_of_ble_eq_true rfl) ⟨rfl, rfl, (Nat.le_of_ble_eq_true rfl), (Nat.le_of_ble_eq_true rfl)⟩ dX12_period_7 (fun tq1 okq1 => ?_)
  refine at_if_eq (pc := 10) (tgt := 22) C (isB.r tq1) dX12_period_10 rfl (fun c2 => ?_) (fun c2 => ?_)
  · have hF := (if_pos c2).symm.trans hF
    refine at_ldc_w (pc := 22) (n := (-999999)) C dX12_period_22 w1750 ?_
    obtain rfl := Option.some.inj hF
    exact at_iret (pc := 25) C hr hlk (show inR (-999999) from ⟨by decide, by decide⟩) (OK_up (k := 94) (j := 2) ok (isB.r (Or.inl rfl))) dX12_period_25
  · have hF := (if_neg c2).symm.trans hF
    refine at_iload_n (pc := 13) C 2 dX12_period_13 rfl rfl ?_
    refine at_iconst (pc := 14) C dX12_period_14 ?_
    refine at_iconst (pc := 15) C dX12_period_15 ?_
    obtain ⟨q3, eq3, hF⟩ := bind_some' hF
    refine at_callS (pc := 16) C (c_X12_isIn l g N v2 0 5 (upI σ 94 2 0) q3 h2 (isB.r (Or.inl rfl)) (show inR 5 from ⟨by decide, by decide⟩) (OK_up (k := 94) (j := 2) ok (isB.r (Or.inl rfl))) eq3) ks_X12_isIn w1525 rfl rfl (Nat.le_of_ble_eq_true rfl) ⟨rfl, rfl, (Nat.le_of_ble_eq_true rfl), (Nat.le_of_ble_eq_true rfl)⟩ dX12_period_16 (fun tq3 okq3 => ?_)
    refine at_if_ne (pc := 19) (tgt := 26) C (isB.r tq3) dX12_period_19 rfl (fun c4 => ?_) (fun c4 => ?_)
    · have hF := (if_neg c4).symm.trans hF
      refine at_iload_n (pc := 26) C 2 dX12_period_26 rfl rfl ?_
      refine at_iconst (pc := 27) C dX12_period_27 ?_
      refine at_icmp_ge (pc := 28) (tgt := 44) C h2 (show inR 3 from ⟨by decide, by decide⟩) dX12_period_28 rfl (fun c5 => ?_) (fun c5 => ?_)
      · have hF := (if_pos c5).symm.trans hF
        refine at_iload_n (pc := 44) C 2 dX12_period_44 rfl rfl ?_
        refine at_iconst (pc := 45) C dX12_period_45 ?_
        refine at_icmp_ne (pc := 46) (tgt := 57) C h2 (show inR 3 from ⟨by decide, by decide⟩) dX12_period_46 rfl (fun c6 => ?_) (fun c6 => ?_)
        · have hF := (if_neg c6).symm.trans hF
          refine at_iload_n (pc := 57) C 2 dX12_period_57 rfl rfl ?_
          refine at_iconst (pc := 58) C dX12_period_58 ?_
          refine at_icmp_ne (pc := 59) (tgt := 70) C h2 (show inR 4 from ⟨by decide, by decide⟩) dX12_period_59 rfl (fun c7 => ?_) (fun c7 => ?_)
          · have hF := (if_neg c7).symm.trans hF
            refine at_aload_n (pc := 70) C 0 dX12_period_70 rfl rfl ?_
            refine at_iload_n (pc := 71) C 1 dX12_period_71 rfl rfl ?_
            obtain ⟨q8, eq8, hF⟩ := bind_some' hF
            refine at_callV (pc := 72) (ci := 12) C (c_X12_claimedOf l g N v1 (upI σ 94 2 0) q8 h1 (OK_up (k := 94) (j := 2) ok (isB.r (Or.inl rfl))) eq8) kv_X12_claimedOf w1650 kd94 rfl rfl rfl rfl (Nat.le_of_ble_eq_true rfl) ⟨rfl, rfl, (Nat.le_of_ble_eq_true rfl), (Nat.le_of_ble_eq_true rfl)⟩ dX12_period_72 (fun tq8 okq8 => ?_)
            obtain rfl := Option.some.inj hF
            exact at_iret (pc := 75) C hr hlk tq8 (OK_up (k := 94) (j := 2) ok (isB.r (Or.inl rfl))) dX12_period_75
          · have hF := (if_pos c7).symm.trans hF
            refine at_aload_n (pc := 62) C 0 dX12_period_62 rfl rfl ?_
            refine at_iload_n (pc := 63) C 1 dX12_period_63 rfl rfl ?_
            obtain ⟨q9, eq9, hF⟩ := bind_some' hF
            refine at_callV (pc := 64) (ci := 12) C (c_X12_openOf l g N v1 (upI σ 94 2 0) q9 h1 (OK_up (k := 94) (j := 2) ok (isB.r (Or.inl rfl))) eq9) kv_X12_openOf w1646 kd94 rfl rfl rfl rfl (Nat.le_of_ble_eq_true rfl) ⟨rfl, rfl, (Nat.le_of_ble_eq_true rfl), (Nat.le_of_ble_eq_true rfl)⟩ dX12_period_64 (fun tq9 okq9 => ?_)
            refine at_goto (pc := 67) (tgt := 75) C dX12_period_67 rfl ?_
            obtain rfl := Option.some.inj hF
            exact at_iret (pc := 75) C hr hlk tq9 (OK_up (k := 94) (j := 2) ok (isB.r (Or.inl rfl))) dX12_period_75
        · have hF := (if_pos c6).symm.trans hF
          refine at_aload_n (pc := 49) C 0 dX12_period_49 rfl rfl ?_
          refine at_iload_n (pc := 50) C 1 dX12_period_50 rfl rfl ?_
          obtain ⟨q10, eq10, hF⟩ := bind_some' hF
          refine at_callV (pc := 51) (ci := 12) C (c_X12_result l g N v1 (upI σ 94 2 0) q10 h1 (OK_up (k := 94) (j := 2) ok (isB.r (Or.inl rfl))) eq10) kv_X12_result w1585 kd94 rfl rfl rfl rfl (Nat.le_of_ble_eq_true rfl) ⟨rfl, rfl, (Nat.le_of_ble_eq_true rfl), (Nat.le_of_ble_eq_true rfl)⟩ dX12_period_51 (fun tq10 okq10 => ?_)
          refine at_goto (pc := 54) (tgt := 75) C dX12_period_54 rfl ?_
          obtain rfl := Option.some.inj hF
          exact at_iret (pc := 75) C hr hlk tq10 (OK_up (k := 94) (j := 2) ok (isB.r (Or.inl rfl))) dX12_period_75
      · have hF := (if_neg c5).symm.trans hF
        refine at_aload_n (pc := 31) C 0 dX12_period_31 rfl rfl ?_
        refine at_getr (pc := 32) (k' := 98) C 4 fw_12_23 kd94 rfl (Nat.le_of_ble_eq_true rfl) rfl rfl dX12_period_32 ?_
        refine at_iconst (pc := 35) C dX12_period_35 ?_
        refine at_iload_n (pc := 36) C 1 dX12_period_36 rfl rfl ?_
        refine at_imul (pc := 37) C dX12_period_37 ?_
        refine at_iload_n (pc := 38) C 2 dX12_period_38 rfl rfl ?_
        refine at_iadd (pc := 39) C dX12_period_39 ?_
        obtain ⟨b11, hF⟩ := inb_some hF
        refine at_iaload (pc := 40) C kd98 b11 dX12_period_40 ?_
        refine at_goto (pc := 41) (tgt := 75) C dX12_period_41 rfl ?_
        obtain rfl := Option.some.inj hF
        exact at_iret (pc := 75) C hr hlk (show inR ((upI σ 94 2 0).1 98 (ja (jm 4 v1) v2)) from ((OK_up (k := 94) (j := 2) ok (isB.r (Or.inl rfl))) 98 (ja (jm 4 v1) v2))) (OK_up (k := 94) (j := 2) ok (isB.r (Or.inl rfl))) dX12_period_75
    · have hF := (if_pos c4).symm.trans hF
      refine at_ldc_w (pc := 22) (n := (-999999)) C dX12_period_22 w1750 ?_
      obtain rfl := Option.some.inj hF
      exact at_iret (pc := 25) C hr hlk (show inR (-999999) from ⟨by decide, by decide⟩) (OK_up (k := 94) (j := 2) ok (isB.r (Or.inl rfl))) dX12_period_25
abbrev rm_X12_areMembers : Room := { frames := 1, cells := 0, slots := 0, locals := 21 }
def F_X12_areMembers_J20 (N : Nat)   (σ : Sto) : Option (Int) :=
  some 0
def F_X12_areMembers (N : Nat) (v1 : Int) (v2 : Int) (σ : Sto) : Option (Int) :=
  (F_X12_isMember N v1 σ).bind (fun q1 => if q1 = 0 then (F_X12_areMembers_J20 N   σ) else ((F_X12_isMember N v2 σ).bind (fun q3 => if q3 = 0 then (F_X12_areMembers_J20 N   σ) else (some 1))))
set_option maxHeartbeats 4000000 in
set_option maxRecDepth 100000 in
theorem c_X12_areMembers (l : Launch) (g : Geo) (N : Nat) (v1 : Int) (v2 : Int) (σ : Sto) (res : Int) (h1 : inR v1) (h2 : inR v2) (ok : OK σ) (hF : F_X12_areMembers N v1 v2 σ = some res) : MtI l g yX12_areMembers cX12_areMembers 3 (some .boolean) rm_X12_areMembers [vr g 94, vi v1, vi v2] σ res σ isB := by
  intro sz
  refine Met.ofAt (own := RX12) (QQ := fun z => QI g z res σ isB) (by decide +kernel) (Nat.le_of_ble_eq_true rfl) rfl ?_
  intro p e s m args below meth c C hr hlk
  show At p l e rm_X12_areMembers s m args below meth c 0 0 g 3 (MQ below (QI g s.heap.size res σ isB) args s 0 0 (AA g s.heap.size)) 0 [(0, vr g 94), (1, vi v1), (2, vi v2)] [] σ
  unfold F_X12_areMembers at hF
  have J20 : F_X12_areMembers_J20 N   σ = some res → At p l e rm_X12_areMembers s m args below meth c 0 0 g 3 (MQ below (QI g s.heap.size res σ isB) args s 0 0 (AA g s.heap.size)) 20 [] [] σ := by
    intro   hF
    unfold F_X12_areMembers_J20 at hF
    refine at_iconst (pc := 20) C dX12_areMembers_20 ?_
    obtain rfl := Option.some.inj hF
    exact at_zret (pc := 21) C hr hlk (Or.inl rfl) ok dX12_areMembers_21
  refine at_aload_n (pc := 0) C 0 dX12_areMembers_0 rfl rfl ?_
  refine at_iload_n (pc := 1) C 1 dX12_areMembers_1 rfl rfl ?_
  obtain ⟨q1, eq1, hF⟩ := bind_some' hF
  refine at_callV (pc := 2) (ci := 12) C (c_X12_isMember l g N v1 σ q1 h1 ok eq1) kv_X12_isMember w1727 kd94 rfl rfl rfl rfl (Nat.le_of_ble_eq_true rfl) ⟨rfl, rfl, (Nat.le_of_ble_eq_true rfl), (Nat.le_of_ble_eq_true rfl)⟩ dX12_areMembers_2 (fun tq1 okq1 => ?_)
  refine at_if_eq (pc := 5) (tgt := 20) C (isB.r tq1) dX12_areMembers_5 rfl (fun c2 => ?_) (fun c2 => ?_)
  · have hF := (if_pos c2).symm.trans hF
    refine at_sub (lv' := []) [] rfl ?_
    exact J20  hF
  · have hF := (if_neg c2).symm.trans hF
    refine at_aload_n (pc := 8) C 0 dX12_areMembers_8 rfl rfl ?_
    refine at_iload_n (pc := 9) C 2 dX12_areMembers_9 rfl rfl ?_
    obtain ⟨q3, eq3, hF⟩ := bind_some' hF
    refine at_callV (pc := 10) (ci := 12) C (c_X12_isMember l g N v2 σ q3 h2 ok eq3) kv_X12_isMember w1727 kd94 rfl rfl rfl rfl (Nat.le_of_ble_eq_true rfl) ⟨rfl, rfl, (Nat.le_of_ble_eq_true rfl), (Nat.le_of_ble_eq_true rfl)⟩ dX12_areMembers_10 (fun tq3 okq3 => ?_)
    refine at_if_eq (pc := 13) (tgt := 20) C (isB.r tq3) dX12_areMembers_13 rfl (fun c4 => ?_) (fun c4 => ?_)
    · have hF := (if_pos c4).symm.trans hF
      refine at_sub (lv' := []) [] rfl ?_
      exact J20  hF
    · have hF := (if_neg c4).symm.trans hF
      refine at_iconst (pc := 16) C dX12_areMembers_16 ?_
      refine at_goto (pc := 17) (tgt := 21) C dX12_areMembers_17 rfl ?_
      obtain rfl := Option.some.inj hF
      exact at_zret (pc := 21) C hr hlk (Or.inr rfl) ok dX12_areMembers_21
abbrev rm_X12_percent : Room := { frames := 2, cells := 0, slots := 0, locals := 47 }
def F_X12_percent_J36 (N : Nat)   (σ : Sto) : Option (Int × Sto) :=
  some ((-1), σ)
def F_X12_percent (N : Nat) (v1 : Int) (v2 : Int) (v3 : Int) (σ : Sto) : Option (Int × Sto) :=
  (F_X12_areMembers N v1 v2 (upI σ 94 2 0)).bind (fun q1 => if q1 = 0 then (F_X12_percent_J36 N   (upI σ 94 2 0)) else (if v1 = v2 then (F_X12_percent_J36 N   (upI σ 94 2 0)) else ((F_X12_isDay N v3 (upI σ 94 2 0)).bind (fun q4 => if q4 = 0 then (F_X12_percent_J36 N   (upI σ 94 2 0)) else ((F_X12_percentOf N v1 v2 v3 (upI σ 94 2 0)).bind (fun q6 => some (q6, (upI σ 94 2 0))))))))
set_option maxHeartbeats 4000000 in
set_option maxRecDepth 100000 in
theorem c_X12_percent (l : Launch) (g : Geo) (N : Nat) (v1 : Int) (v2 : Int) (v3 : Int) (σ : Sto) (res : Int × Sto) (h1 : inR v1) (h2 : inR v2) (h3 : inR v3) (ok : OK σ) (hF : F_X12_percent N v1 v2 v3 σ = some res) : MtI l g yX12_percent cX12_percent 4 (some .int) rm_X12_percent [vr g 94, vi v1, vi v2, vi v3] σ res.1 res.2 inR := by
  intro sz
  refine Met.ofAt (own := RX12) (QQ := fun z => QI g z res.1 res.2 inR) (by decide +kernel) (Nat.le_of_ble_eq_true rfl) rfl ?_
  intro p e s m args below meth c C hr hlk
  show At p l e rm_X12_percent s m args below meth c 0 0 g 4 (MQ below (QI g s.heap.size res.1 res.2 inR) args s 0 0 (AA g s.heap.size)) 0 [(0, vr g 94), (1, vi v1), (2, vi v2), (3, vi v3)] [] σ
  unfold F_X12_percent at hF
  have J36 : ∀  (σ : Sto), OK σ → F_X12_percent_J36 N   σ = some res → At p l e rm_X12_percent s m args below meth c 0 0 g 4 (MQ below (QI g s.heap.size res.1 res.2 inR) args s 0 0 (AA g s.heap.size)) 36 [] [] σ := by
    intro σ ok hF
    unfold F_X12_percent_J36 at hF
    refine at_iconst (pc := 36) C dX12_percent_36 ?_
    obtain rfl := Option.some.inj hF
    exact at_iret (pc := 37) C hr hlk (show inR (-1) from ⟨by decide, by decide⟩) ok dX12_percent_37
  refine at_aload_n (pc := 0) C 0 dX12_percent_0 rfl rfl ?_
  refine at_iconst (pc := 1) C dX12_percent_1 ?_
  refine at_puti (pc := 2) (jz := 2) C fu_12_81 kd94 rfl (Nat.le_of_ble_eq_true rfl) rfl rfl dX12_percent_2 ?_
  refine at_aload_n (pc := 5) C 0 dX12_percent_5 rfl rfl ?_
  refine at_iload_n (pc := 6) C 1 dX12_percent_6 rfl rfl ?_
  refine at_iload_n (pc := 7) C 2 dX12_percent_7 rfl rfl ?_
  obtain ⟨q1, eq1, hF⟩ := bind_some' hF
  refine at_callV (pc := 8) (ci := 12) C (c_X12_areMembers l g N v1 v2 (upI σ 94 2 0) q1 h1 h2 (OK_up (k := 94) (j := 2) ok (isB.r (Or.inl rfl))) eq1) kv_X12_areMembers w1755 kd94 rfl rfl rfl rfl (Nat.le_of_ble_eq_true rfl) ⟨rfl, rfl, (Nat.le_of_ble_eq_true rfl), (Nat.le_of_ble_eq_true rfl)⟩ dX12_percent_8 (fun tq1 okq1 => ?_)
  refine at_if_eq (pc := 11) (tgt := 36) C (isB.r tq1) dX12_percent_11 rfl (fun c2 => ?_) (fun c2 => ?_)
  · have hF := (if_pos c2).symm.trans hF
    refine at_sub (lv' := []) [] rfl ?_
    exact J36 (upI σ 94 2 0) (OK_up (k := 94) (j := 2) ok (isB.r (Or.inl rfl))) hF
  · have hF := (if_neg c2).symm.trans hF
    refine at_iload_n (pc := 14) C 1 dX12_percent_14 rfl rfl ?_
    refine at_iload_n (pc := 15) C 2 dX12_percent_15 rfl rfl ?_
    refine at_icmp_eq (pc := 16) (tgt := 36) C h1 h2 dX12_percent_16 rfl (fun c3 => ?_) (fun c3 => ?_)
    · have hF := (if_pos c3).symm.trans hF
      refine at_sub (lv' := []) [] rfl ?_
      exact J36 (upI σ 94 2 0) (OK_up (k := 94) (j := 2) ok (isB.r (Or.inl rfl))) hF
    · have hF := (if_neg c3).symm.trans hF
      refine at_iload_n (pc := 19) C 3 dX12_percent_19 rfl rfl ?_
      obtain ⟨q4, eq4, hF⟩ := bind_some' hF
      refine at_callS (pc := 20) C (c_X12_isDay l g N v3 (upI σ 94 2 0) q4 h3 (OK_up (k := 94) (j := 2) ok (isB.r (Or.inl rfl))) eq4) ks_X12_isDay w1731 rfl rfl (Nat.le_of_ble_eq_true rfl) ⟨rfl, rfl, (Nat.le_of_ble_eq_true rfl), (Nat.le_of_ble_eq_true rfl)⟩ dX12_percent_20 (fun tq4 okq4 => ?_)
      refine at_if_eq (pc := 23) (tgt := 36) C (isB.r tq4) dX12_percent_23 rfl (fun c5 => ?_) (fun c5 => ?_)
      · have hF := (if_pos c5).symm.trans hF
        refine at_sub (lv' := []) [] rfl ?_
        exact J36 (upI σ 94 2 0) (OK_up (k := 94) (j := 2) ok (isB.r (Or.inl rfl))) hF
      · have hF := (if_neg c5).symm.trans hF
        refine at_aload_n (pc := 26) C 0 dX12_percent_26 rfl rfl ?_
        refine at_iload_n (pc := 27) C 1 dX12_percent_27 rfl rfl ?_
        refine at_iload_n (pc := 28) C 2 dX12_percent_28 rfl rfl ?_
        refine at_iload_n (pc := 29) C 3 dX12_percent_29 rfl rfl ?_
        obtain ⟨q6, eq6, hF⟩ := bind_some' hF
        refine at_callV (pc := 30) (ci := 12) C (c_X12_percentOf l g N v1 v2 v3 (upI σ 94 2 0) q6 h1 h2 h3 (OK_up (k := 94) (j := 2) ok (isB.r (Or.inl rfl))) eq6) kv_X12_percentOf w1613 kd94 rfl rfl rfl rfl (Nat.le_of_ble_eq_true rfl) ⟨rfl, rfl, (Nat.le_of_ble_eq_true rfl), (Nat.le_of_ble_eq_true rfl)⟩ dX12_percent_30 (fun tq6 okq6 => ?_)
        refine at_goto (pc := 33) (tgt := 37) C dX12_percent_33 rfl ?_
        obtain rfl := Option.some.inj hF
        exact at_iret (pc := 37) C hr hlk tq6 (OK_up (k := 94) (j := 2) ok (isB.r (Or.inl rfl))) dX12_percent_37
abbrev rm_X12_share : Room := { frames := 3, cells := 0, slots := 0, locals := 80 }
def F_X12_share (N : Nat) (v1 : Int) (v2 : Int) (v3 : Int) (σ : Sto) : Option (Int × Sto) :=
  (F_X12_areMembers N v1 v2 (upI σ 94 2 0)).bind (fun q1 => if q1 = 0 then (some ((-1), (upI σ 94 2 0))) else ((F_X12_isDay N v3 (upI σ 94 2 0)).bind (fun q3 => if q3 = 0 then (some ((-1), (upI σ 94 2 0))) else ((F_X12_laysShares N v3 (upI σ 94 2 0)).bind (fun q5 => inb (ja (jm 8 v1) v2) 64 (some ((jfbits (fb (q5.2 102 (ja (jm 8 v1) v2)))), q5)))))))
set_option maxHeartbeats 4000000 in
set_option maxRecDepth 100000 in
theorem c_X12_share (l : Launch) (g : Geo) (N : Nat) (v1 : Int) (v2 : Int) (v3 : Int) (σ : Sto) (res : Int × Sto) (h1 : inR v1) (h2 : inR v2) (h3 : inR v3) (ok : OK σ) (hF : F_X12_share N v1 v2 v3 σ = some res) : MtI l g yX12_share cX12_share 4 (some .int) rm_X12_share [vr g 94, vi v1, vi v2, vi v3] σ res.1 res.2 inR := by
  intro sz
  refine Met.ofAt (own := RX12) (QQ := fun z => QI g z res.1 res.2 inR) (by decide +kernel) (Nat.le_of_ble_eq_true rfl) rfl ?_
  intro p e s m args below meth c C hr hlk
  show At p l e rm_X12_share s m args below meth c 0 0 g 4 (MQ below (QI g s.heap.size res.1 res.2 inR) args s 0 0 (AA g s.heap.size)) 0 [(0, vr g 94), (1, vi v1), (2, vi v2), (3, vi v3)] [] σ
  unfold F_X12_share at hF
  refine at_aload_n (pc := 0) C 0 dX12_share_0 rfl rfl ?_
  refine at_iconst (pc := 1) C dX12_share_1 ?_
  refine at_puti (pc := 2) (jz := 2) C fu_12_81 kd94 rfl (Nat.le_of_ble_eq_true rfl) rfl rfl dX12_share_2 ?_
  refine at_aload_n (pc := 5) C 0 dX12_share_5 rfl rfl ?_
  refine at_iload_n (pc := 6) C 1 dX12_share_6 rfl rfl ?_
  refine at_iload_n (pc := 7) C 2 dX12_share_7 rfl rfl ?_
  obtain ⟨q1, eq1, hF⟩ := bind_some' hF
  refine at_callV (pc := 8) (ci := 12) C (c_X12_areMembers l g N v1 v2 (upI σ 94 2 0) q1 h1 h2 (OK_up (k := 94) (j := 2) ok (isB.r (Or.inl rfl))) eq1) kv_X12_areMembers w1755 kd94 rfl rfl rfl rfl (Nat.le_of_ble_eq_true rfl) ⟨rfl, rfl, (Nat.le_of_ble_eq_true rfl), (Nat.le_of_ble_eq_true rfl)⟩ dX12_share_8 (fun tq1 okq1 => ?_)
  refine at_if_eq (pc := 11) (tgt := 21) C (isB.r tq1) dX12_share_11 rfl (fun c2 => ?_) (fun c2 => ?_)
  · have hF := (if_pos c2).symm.trans hF
    refine at_iconst (pc := 21) C dX12_share_21 ?_
    obtain rfl := Option.some.inj hF
    exact at_iret (pc := 22) C hr hlk (show inR (-1) from ⟨by decide, by decide⟩) (OK_up (k := 94) (j := 2) ok (isB.r (Or.inl rfl))) dX12_share_22
  · have hF := (if_neg c2).symm.trans hF
    refine at_iload_n (pc := 14) C 3 dX12_share_14 rfl rfl ?_
    obtain ⟨q3, eq3, hF⟩ := bind_some' hF
    refine at_callS (pc := 15) C (c_X12_isDay l g N v3 (upI σ 94 2 0) q3 h3 (OK_up (k := 94) (j := 2) ok (isB.r (Or.inl rfl))) eq3) ks_X12_isDay w1731 rfl rfl (Nat.le_of_ble_eq_true rfl) ⟨rfl, rfl, (Nat.le_of_ble_eq_true rfl), (Nat.le_of_ble_eq_true rfl)⟩ dX12_share_15 (fun tq3 okq3 => ?_)
    refine at_if_ne (pc := 18) (tgt := 23) C (isB.r tq3) dX12_share_18 rfl (fun c4 => ?_) (fun c4 => ?_)
    · have hF := (if_neg c4).symm.trans hF
      refine at_aload_n (pc := 23) C 0 dX12_share_23 rfl rfl ?_
      refine at_iload_n (pc := 24) C 3 dX12_share_24 rfl rfl ?_
      obtain ⟨q5, eq5, hF⟩ := bind_some' hF
      refine at_callVv (pc := 25) (ci := 12) C (c_X12_laysShares l g N v3 (upI σ 94 2 0) q5 h3 (OK_up (k := 94) (j := 2) ok (isB.r (Or.inl rfl))) eq5) kv_X12_laysShares w1609 kd94 rfl rfl rfl rfl (Nat.le_of_ble_eq_true rfl) ⟨rfl, rfl, (Nat.le_of_ble_eq_true rfl), (Nat.le_of_ble_eq_true rfl)⟩ dX12_share_25 (fun okq5 => ?_)
      refine at_aload_n (pc := 28) C 0 dX12_share_28 rfl rfl ?_
      refine at_getr (pc := 29) (k' := 102) C 8 fw_12_35 kd94 rfl (Nat.le_of_ble_eq_true rfl) rfl rfl dX12_share_29 ?_
      refine at_bipush (pc := 32) C dX12_share_32 (by decide) ?_
      refine at_iload_n (pc := 34) C 1 dX12_share_34 rfl rfl ?_
      refine at_imul (pc := 35) C dX12_share_35 ?_
      refine at_iload_n (pc := 36) C 2 dX12_share_36 rfl rfl ?_
      refine at_iadd (pc := 37) C dX12_share_37 ?_
      obtain ⟨b6, hF⟩ := inb_some hF
      refine at_faload (pc := 38) C kd102 b6 dX12_share_38 ?_
      refine at_fbits (pc := 39) C w1763 okq5 (Nat.le_of_ble_eq_true rfl) ⟨(Nat.le_of_ble_eq_true rfl), (Nat.le_of_ble_eq_true rfl)⟩ dX12_share_39 ?_
      obtain rfl := Option.some.inj hF
      exact at_iret (pc := 42) C hr hlk (jfbits_R (fb (q5.2 102 (ja (jm 8 v1) v2)))) okq5 dX12_share_42
    · have hF := (if_pos c4).symm.trans hF
      refine at_iconst (pc := 21) C dX12_share_21 ?_
      obtain rfl := Option.some.inj hF
      exact at_iret (pc := 22) C hr hlk (show inR (-1) from ⟨by decide, by decide⟩) (OK_up (k := 94) (j := 2) ok (isB.r (Or.inl rfl))) dX12_share_22
abbrev rm_X12_parts : Room := { frames := 3, cells := 0, slots := 0, locals := 72 }
def F_X12_parts (N : Nat) (v1 : Int) (v2 : Int) (v3 : Int) (σ : Sto) : Option (Int × Sto) :=
  (F_X12_areMembers N v1 v2 (upI σ 94 2 0)).bind (fun q1 => if q1 = 0 then (some ((-1), (upI σ 94 2 0))) else ((F_X12_isDay N v3 (upI σ 94 2 0)).bind (fun q3 => if q3 = 0 then (some ((-1), (upI σ 94 2 0))) else ((F_X12_laysShares N v3 (upI σ 94 2 0)).bind (fun q5 => inb (ja (jm 8 v1) v2) 64 (grd (vf_n64 (FP.f2d (fb (q5.2 102 (ja (jm 8 v1) v2))))) (dn64 _) (grd (vf_n64 (FP.dmul (FP.f2d (fb (q5.2 102 (ja (jm 8 v1) v2)))) 4666723172467343360)) (dn64 _) (grd (vf_n64 (FP.dadd (FP.dmul (FP.f2d (fb (q5.2 102 (ja (jm 8 v1) v2)))) 4666723172467343360) 4602678819172646912)) (dn64 _) (some ((jd2i (FP.dadd (FP.dmul (FP.f2d (fb (q5.2 102 (ja (jm 8 v1) v2)))) 4666723172467343360) 4602678819172646912)), q5))))))))))
set_option maxHeartbeats 4000000 in
set_option maxRecDepth 100000 in
theorem c_X12_parts (l : Launch) (g : Geo) (N : Nat) (v1 : Int) (v2 : Int) (v3 : Int) (σ : Sto) (res : Int × Sto) (h1 : inR v1) (h2 : inR v2) (h3 : inR v3) (ok : OK σ) (hF : F_X12_parts N v1 v2 v3 σ = some res) : MtI l g yX12_parts cX12_parts 4 (some .int) rm_X12_parts [vr g 94, vi v1, vi v2, vi v3] σ res.1 res.2 inR := by
  intro sz
  refine Met.ofAt (own := RX12) (QQ := fun z => QI g z res.1 res.2 inR) (by decide +kernel) (Nat.le_of_ble_eq_true rfl) rfl ?_
  intro p e s m args below meth c C hr hlk
  show At p l e rm_X12_parts s m args below meth c 0 0 g 4 (MQ below (QI g s.heap.size res.1 res.2 inR) args s 0 0 (AA g s.heap.size)) 0 [(0, vr g 94), (1, vi v1), (2, vi v2), (3, vi v3)] [] σ
  unfold F_X12_parts at hF
  refine at_aload_n (pc := 0) C 0 dX12_parts_0 rfl rfl ?_
  refine at_iconst (pc := 1) C dX12_parts_1 ?_
  refine at_puti (pc := 2) (jz := 2) C fu_12_81 kd94 rfl (Nat.le_of_ble_eq_true rfl) rfl rfl dX12_parts_2 ?_
  refine at_aload_n (pc := 5) C 0 dX12_parts_5 rfl rfl ?_
  refine at_iload_n (pc := 6) C 1 dX12_parts_6 rfl rfl ?_
  refine at_iload_n (pc := 7) C 2 dX12_parts_7 rfl rfl ?_
  obtain ⟨q1, eq1, hF⟩ := bind_some' hF
  refine at_callV (pc := 8) (ci := 12) C (c_X12_areMembers l g N v1 v2 (upI σ 94 2 0) q1 h1 h2 (OK_up (k := 94) (j := 2) ok (isB.r (Or.inl rfl))) eq1) kv_X12_areMembers w1755 kd94 rfl rfl rfl rfl (Nat.le_of_ble_eq_true rfl) ⟨rfl, rfl, (Nat.le_of_ble_eq_true rfl), (Nat.le_of_ble_eq_true rfl)⟩ dX12_parts_8 (fun tq1 okq1 => ?_)
  refine at_if_eq (pc := 11) (tgt := 21) C (isB.r tq1) dX12_parts_11 rfl (fun c2 => ?_) (fun c2 => ?_)
  · have hF := (if_pos c2).symm.trans hF
    refine at_iconst (pc := 21) C dX12_parts_21 ?_
    obtain rfl := Option.some.inj hF
    exact at_iret (pc := 22) C hr hlk (show inR (-1) from ⟨by decide, by decide⟩) (OK_up (k := 94) (j := 2) ok (isB.r (Or.inl rfl))) dX12_parts_22
  · have hF := (if_neg c2).symm.trans hF
    refine at_iload_n (pc := 14) C 3 dX12_parts_14 rfl rfl ?_
    obtain ⟨q3, eq3, hF⟩ := bind_some' hF
    refine at_callS (pc := 15) C (c_X12_isDay l g N v3 (upI σ 94 2 0) q3 h3 (OK_up (k := 94) (j := 2) ok (isB.r (Or.inl rfl))) eq3) ks_X12_isDay w1731 rfl rfl (Nat.le_of_ble_eq_true rfl) ⟨rfl, rfl, (Nat.le_of_ble_eq_true rfl), (Nat.le_of_ble_eq_true rfl)⟩ dX12_parts_15 (fun tq3 okq3 => ?_)
    refine at_if_ne (pc := 18) (tgt := 23) C (isB.r tq3) dX12_parts_18 rfl (fun c4 => ?_) (fun c4 => ?_)
    · have hF := (if_neg c4).symm.trans hF
      refine at_aload_n (pc := 23) C 0 dX12_parts_23 rfl rfl ?_
      refine at_iload_n (pc := 24) C 3 dX12_parts_24 rfl rfl ?_
      obtain ⟨q5, eq5, hF⟩ := bind_some' hF
      refine at_callVv (pc := 25) (ci := 12) C (c_X12_laysShares l g N v3 (upI σ 94 2 0) q5 h3 (OK_up (k := 94) (j := 2) ok (isB.r (Or.inl rfl))) eq5) kv_X12_laysShares w1609 kd94 rfl rfl rfl rfl (Nat.le_of_ble_eq_true rfl) ⟨rfl, rfl, (Nat.le_of_ble_eq_true rfl), (Nat.le_of_ble_eq_true rfl)⟩ dX12_parts_25 (fun okq5 => ?_)
      refine at_aload_n (pc := 28) C 0 dX12_parts_28 rfl rfl ?_
      refine at_getr (pc := 29) (k' := 102) C 8 fw_12_35 kd94 rfl (Nat.le_of_ble_eq_true rfl) rfl rfl dX12_parts_29 ?_
      refine at_bipush (pc := 32) C dX12_parts_32 (by decide) ?_
      refine at_iload_n (pc := 34) C 1 dX12_parts_34 rfl rfl ?_
      refine at_imul (pc := 35) C dX12_parts_35 ?_
      refine at_iload_n (pc := 36) C 2 dX12_parts_36 rfl rfl ?_
      refine at_iadd (pc := 37) C dX12_parts_37 ?_
      obtain ⟨b6, hF⟩ := inb_some hF
      refine at_faload (pc := 38) C kd102 b6 dX12_parts_38 ?_
      obtain ⟨n7, hF⟩ := grd_some hF
      refine at_f2d (pc := 39) C dX12_parts_39 n7 ?_
      refine at_ldc2d (pc := 40) C dX12_parts_40 w1777 ?_
      obtain ⟨n8, hF⟩ := grd_some hF
      refine at_dmul (pc := 43) C dX12_parts_43 n8 ?_
      refine at_ldc2d (pc := 44) C dX12_parts_44 w1778 ?_
      obtain ⟨n9, hF⟩ := grd_some hF
      refine at_dadd (pc := 47) C dX12_parts_47 n9 ?_
      refine at_d2i (pc := 48) C dX12_parts_48 ?_
      obtain rfl := Option.some.inj hF
      exact at_iret (pc := 49) C hr hlk (jd2i_R (FP.dadd (FP.dmul (FP.f2d (fb (q5.2 102 (ja (jm 8 v1) v2)))) 4666723172467343360) 4602678819172646912)) okq5 dX12_parts_49
    · have hF := (if_pos c4).symm.trans hF
      refine at_iconst (pc := 21) C dX12_parts_21 ?_
      obtain rfl := Option.some.inj hF
      exact at_iret (pc := 22) C hr hlk (show inR (-1) from ⟨by decide, by decide⟩) (OK_up (k := 94) (j := 2) ok (isB.r (Or.inl rfl))) dX12_parts_22
abbrev rm_X12_controls : Room := { frames := 3, cells := 0, slots := 0, locals := 72 }
def F_X12_controls (N : Nat) (v1 : Int) (v2 : Int) (v3 : Int) (σ : Sto) : Option (Int × Sto) :=
  (F_X12_areMembers N v1 v2 (upI σ 94 2 0)).bind (fun q1 => if q1 = 0 then (some ((-1), (upI σ 94 2 0))) else (if v1 = v2 then (some ((-1), (upI σ 94 2 0))) else ((F_X12_isDay N v3 (upI σ 94 2 0)).bind (fun q4 => if q4 = 0 then (some ((-1), (upI σ 94 2 0))) else ((F_X12_laysShares N v3 (upI σ 94 2 0)).bind (fun q6 => inb 0 8 ((F_X12_isControl N v1 v2 (q6.1 100 0) q6).bind (fun q8 => if q8 = 0 then (some (0, q6)) else (some (1, q6))))))))))
set_option maxHeartbeats 4000000 in
set_option maxRecDepth 100000 in
theorem c_X12_controls (l : Launch) (g : Geo) (N : Nat) (v1 : Int) (v2 : Int) (v3 : Int) (σ : Sto) (res : Int × Sto) (h1 : inR v1) (h2 : inR v2) (h3 : inR v3) (ok : OK σ) (hF : F_X12_controls N v1 v2 v3 σ = some res) : MtI l g yX12_controls cX12_controls 4 (some .int) rm_X12_controls [vr g 94, vi v1, vi v2, vi v3] σ res.1 res.2 inR := by
  intro sz
  refine Met.ofAt (own := RX12) (QQ := fun z => QI g z res.1 res.2 inR) (by decide +kernel) (Nat.le_of_ble_eq_true rfl) rfl ?_
  intro p e s m args below meth c C hr hlk
  show At p l e rm_X12_controls s m args below meth c 0 0 g 4 (MQ below (QI g s.heap.size res.1 res.2 inR) args s 0 0 (AA g s.heap.size)) 0 [(0, vr g 94), (1, vi v1), (2, vi v2), (3, vi v3)] [] σ
  unfold F_X12_controls at hF
  refine at_aload_n (pc := 0) C 0 dX12_controls_0 rfl rfl ?_
  refine at_iconst (pc := 1) C dX12_controls_1 ?_
  refine at_puti (pc := 2) (jz := 2) C fu_12_81 kd94 rfl (Nat.le_of_ble_eq_true rfl) rfl rfl dX12_controls_2 ?_
  refine at_aload_n (pc := 5) C 0 dX12_controls_5 rfl rfl ?_
  refine at_iload_n (pc := 6) C 1 dX12_controls_6 rfl rfl ?_
  refine at_iload_n (pc := 7) C 2 dX12_controls_7 rfl rfl ?_
  obtain ⟨q1, eq1, hF⟩ := bind_some' hF
  refine at_callV (pc := 8) (ci := 12) C (c_X12_areMembers l g N v1 v2 (upI σ 94 2 0) q1 h1 h2 (OK_up (k := 94) (j := 2) ok (isB.r (Or.inl rfl))) eq1) kv_X12_areMembers w1755 kd94 rfl rfl rfl rfl (Nat.le_of_ble_eq_true rfl) ⟨rfl, rfl, (Nat.le_of_ble_eq_true rfl), (Nat.le_of_ble_eq_true rfl)⟩ dX12_controls_8 (fun tq1 okq1 => ?_)
  refine at_if_eq (pc := 11) (tgt := 26) C (isB.r tq1) dX12_controls_11 rfl (fun c2 => ?_) (fun c2 => ?_)
  · have hF := (if_pos c2).symm.trans hF
    refine at_iconst (pc := 26) C dX12_controls_26 ?_
    obtain rfl := Option.some.inj hF
    exact at_iret (pc := 27) C hr hlk (show inR (-1) from ⟨by decide, by decide⟩) (OK_up (k := 94) (j := 2) ok (isB.r (Or.inl rfl))) dX12_controls_27
  · have hF := (if_neg c2).symm.trans hF
    refine at_iload_n (pc := 14) C 1 dX12_controls_14 rfl rfl ?_
    refine at_iload_n (pc := 15) C 2 dX12_controls_15 rfl rfl ?_
    refine at_icmp_eq (pc := 16) (tgt := 26) C h1 h2 dX12_controls_16 rfl (fun c3 => ?_) (fun c3 => ?_)
    · have hF := (if_pos c3).symm.trans hF
      refine at_iconst (pc := 26) C dX12_controls_26 ?_
      obtain rfl := Option.some.inj hF
      exact at_iret (pc := 27) C hr hlk (show inR (-1) from ⟨by decide, by decide⟩) (OK_up (k := 94) (j := 2) ok (isB.r (Or.inl rfl))) dX12_controls_27
    · have hF := (if_neg c3).symm.trans hF
      refine at_iload_n (pc := 19) C 3 dX12_controls_19 rfl rfl ?_
      obtain ⟨q4, eq4, hF⟩ := bind_some' hF
      refine at_callS (pc := 20) C (c_X12_isDay l g N v3 (upI σ 94 2 0) q4 h3 (OK_up (k := 94) (j := 2) ok (isB.r (Or.inl rfl))) eq4) ks_X12_isDay w1731 rfl rfl (Nat.le_of_ble_eq_true rfl) ⟨rfl, rfl, (Nat.le_of_ble_eq_true rfl), (Nat.le_of_ble_eq_true rfl)⟩ dX12_controls_20 (fun tq4 okq4 => ?_)
      refine at_if_ne (pc := 23) (tgt := 28) C (isB.r tq4) dX12_controls_23 rfl (fun c5 => ?_) (fun c5 => ?_)
      · have hF := (if_neg c5).symm.trans hF
        refine at_aload_n (pc := 28) C 0 dX12_controls_28 rfl rfl ?_
        refine at_iload_n (pc := 29) C 3 dX12_controls_29 rfl rfl ?_
        obtain ⟨q6, eq6, hF⟩ := bind_some' hF
        refine at_callVv (pc := 30) (ci := 12) C (c_X12_laysShares l g N v3 (upI σ 94 2 0) q6 h3 (OK_up (k := 94) (j := 2) ok (isB.r (Or.inl rfl))) eq6) kv_X12_laysShares w1609 kd94 rfl rfl rfl rfl (Nat.le_of_ble_eq_true rfl) ⟨rfl, rfl, (Nat.le_of_ble_eq_true rfl), (Nat.le_of_ble_eq_true rfl)⟩ dX12_controls_30 (fun okq6 => ?_)
        refine at_aload_n (pc := 33) C 0 dX12_controls_33 rfl rfl ?_
        refine at_iload_n (pc := 34) C 1 dX12_controls_34 rfl rfl ?_
        refine at_iload_n (pc := 35) C 2 dX12_controls_35 rfl rfl ?_
        refine at_aload_n (pc := 36) C 0 dX12_controls_36 rfl rfl ?_
        refine at_getr (pc := 37) (k' := 100) C 6 fw_12_29 kd94 rfl (Nat.le_of_ble_eq_true rfl) rfl rfl dX12_controls_37 ?_
        refine at_iconst (pc := 40) C dX12_controls_40 ?_
        obtain ⟨b7, hF⟩ := inb_some hF
        refine at_iaload (pc := 41) C kd100 b7 dX12_controls_41 ?_
        obtain ⟨q8, eq8, hF⟩ := bind_some' hF
        refine at_callV (pc := 42) (ci := 12) C (c_X12_isControl l g N v1 v2 (q6.1 100 0) q6 q8 h1 h2 (okq6 100 0) okq6 eq8) kv_X12_isControl w1622 kd94 rfl rfl rfl rfl (Nat.le_of_ble_eq_true rfl) ⟨rfl, rfl, (Nat.le_of_ble_eq_true rfl), (Nat.le_of_ble_eq_true rfl)⟩ dX12_controls_42 (fun tq8 okq8 => ?_)
        refine at_if_eq (pc := 45) (tgt := 52) C (isB.r tq8) dX12_controls_45 rfl (fun c9 => ?_) (fun c9 => ?_)
        · have hF := (if_pos c9).symm.trans hF
          refine at_iconst (pc := 52) C dX12_controls_52 ?_
          obtain rfl := Option.some.inj hF
          exact at_iret (pc := 53) C hr hlk (isB.r (Or.inl rfl)) okq6 dX12_controls_53
        · have hF := (if_neg c9).symm.trans hF
          refine at_iconst (pc := 48) C dX12_controls_48 ?_
          refine at_goto (pc := 49) (tgt := 53) C dX12_controls_49 rfl ?_
          obtain rfl := Option.some.inj hF
          exact at_iret (pc := 53) C hr hlk (isB.r (Or.inr rfl)) okq6 dX12_controls_53
      · have hF := (if_pos c5).symm.trans hF
        refine at_iconst (pc := 26) C dX12_controls_26 ?_
        obtain rfl := Option.some.inj hF
        exact at_iret (pc := 27) C hr hlk (show inR (-1) from ⟨by decide, by decide⟩) (OK_up (k := 94) (j := 2) ok (isB.r (Or.inl rfl))) dX12_controls_27
abbrev rm_X12_relatedTo : Room := { frames := 2, cells := 0, slots := 0, locals := 47 }
def F_X12_relatedTo_J35 (N : Nat) (nx4 : (Int × Int) → Option (Int)) (v1 : Int) (v3 : Int) (t0 : Int) (t1 : Int) (σ : Sto) : Option (Int) :=
  nx4 ((jor t0 t1), (ja v3 1))
def F_X12_relatedTo_B4 (N : Nat) (nx4 : (Int × Int) → Option (Int)) (v1 : Int) (v2 : Int) (v3 : Int) (σ : Sto) : Option (Int) :=
  if (σ.1 94 11) ≤ v3 then (some v2) else (inb 0 8 ((F_X12_areRelated N v1 v3 (σ.1 100 0) σ).bind (fun q3 => if q3 = 0 then (F_X12_relatedTo_J35 N nx4 v1 v3 v2 0 σ) else (F_X12_relatedTo_J35 N nx4 v1 v3 v2 (jshl 1 v3) σ))))
def F_X12_relatedTo (N : Nat) (v1 : Int) (σ : Sto) : Option (Int) :=
  loopK (fun q nx4 => F_X12_relatedTo_B4 N  nx4 v1 q.1 q.2 σ) N (0, 0)
set_option maxHeartbeats 4000000 in
set_option maxRecDepth 100000 in
theorem c_X12_relatedTo (l : Launch) (g : Geo) (N : Nat) (v1 : Int) (σ : Sto) (res : Int) (h1 : inR v1) (ok : OK σ) (hF : F_X12_relatedTo N v1 σ = some res) : MtI l g yX12_relatedTo cX12_relatedTo 4 (some .int) rm_X12_relatedTo [vr g 94, vi v1] σ res σ inR := by
  intro sz
  refine Met.ofAt (own := RX12) (QQ := fun z => QI g z res σ inR) (by decide +kernel) (Nat.le_of_ble_eq_true rfl) rfl ?_
  intro p e s m args below meth c C hr hlk
  show At p l e rm_X12_relatedTo s m args below meth c 0 0 g 4 (MQ below (QI g s.heap.size res σ inR) args s 0 0 (AA g s.heap.size)) 0 [(0, vr g 94), (1, vi v1)] [] σ
  unfold F_X12_relatedTo at hF
  refine at_iconst (pc := 0) C dX12_relatedTo_0 ?_
  refine at_istore_n (pc := 1) (lv' := [(2, vi 0), (0, vr g 94), (1, vi v1)]) C dX12_relatedTo_1 rfl (Nat.le_of_ble_eq_true rfl) rfl ?_
  refine at_iconst (pc := 2) C dX12_relatedTo_2 ?_
  refine at_istore_n (pc := 3) (lv' := [(3, vi 0), (2, vi 0), (0, vr g 94), (1, vi v1)]) C dX12_relatedTo_3 rfl (Nat.le_of_ble_eq_true rfl) rfl ?_
  have L4 : ∀ (v1 : Int) (v2 : Int) (v3 : Int), inR v1 → inR v2 → inR v3 → loopK (fun q nx4 => F_X12_relatedTo_B4 N  nx4 v1 q.1 q.2 σ) N (v2, v3) = some res → At p l e rm_X12_relatedTo s m args below meth c 0 0 g 4 (MQ below (QI g s.heap.size res σ inR) args s 0 0 (AA g s.heap.size)) 4 [(0, vr g 94), (1, vi v1), (2, vi v2), (3, vi v3)] [] σ := by
    intro v1 v2 v3 h1 h2 h3 hF
    refine loopK_ind (res := res) (P := fun (q : Int × Int) => inR q.1 → inR q.2 → At p l e rm_X12_relatedTo s m args below meth c 0 0 g 4 (MQ below (QI g s.heap.size res σ inR) args s 0 0 (AA g s.heap.size)) 4 [(0, vr g 94), (1, vi v1), (2, vi q.1), (3, vi q.2)] [] σ) ?_ N _ hF h2 h3
    intro nx4 q ih4 hF
    obtain ⟨v2, v3⟩ := q
    intro h2 h3
    have hF : F_X12_relatedTo_B4 N  nx4 v1 v2 v3 σ = some res := hF
    unfold F_X12_relatedTo_B4 at hF
    refine at_iload_n (pc := 4) C 3 dX12_relatedTo_4 rfl rfl ?_
    refine at_aload_n (pc := 5) C 0 dX12_relatedTo_5 rfl rfl ?_
    refine at_geti (pc := 6) (jz := 11) C fw_12_132 kd94 rfl (Nat.le_of_ble_eq_true rfl) rfl rfl dX12_relatedTo_6 ?_
    refine at_icmp_ge (pc := 9) (tgt := 43) C h3 (ok 94 11) dX12_relatedTo_9 rfl (fun c1 => ?_) (fun c1 => ?_)
    · have hF := (if_pos c1).symm.trans hF
      refine at_iload_n (pc := 43) C 2 dX12_relatedTo_43 rfl rfl ?_
      obtain rfl := Option.some.inj hF
      exact at_iret (pc := 44) C hr hlk h2 ok dX12_relatedTo_44
    · have hF := (if_neg c1).symm.trans hF
      have J35 : ∀ (v3 : Int) (t0 : Int) (t1 : Int), inR v3 → inR t0 → inR t1 → F_X12_relatedTo_J35 N nx4 v1 v3 t0 t1 σ = some res → At p l e rm_X12_relatedTo s m args below meth c 0 0 g 4 (MQ below (QI g s.heap.size res σ inR) args s 0 0 (AA g s.heap.size)) 35 [(0, vr g 94), (1, vi v1), (3, vi v3)] [vi t1, vi t0] σ := by
        intro v3 t0 t1 h3 ht0 ht1 hF
        unfold F_X12_relatedTo_J35 at hF
        refine at_ior (pc := 35) C dX12_relatedTo_35 ?_
        refine at_istore_n (pc := 36) (lv' := [(2, vi (jor t0 t1)), (0, vr g 94), (1, vi v1), (3, vi v3)]) C dX12_relatedTo_36 rfl (Nat.le_of_ble_eq_true rfl) rfl ?_
        refine at_iinc (pc := 37) (lv' := [(3, vi (ja v3 1)), (2, vi (jor t0 t1)), (0, vr g 94), (1, vi v1)]) C 3 dX12_relatedTo_37 rfl (Nat.le_of_ble_eq_true rfl) rfl ?_
        refine at_goto (pc := 40) (tgt := 4) C dX12_relatedTo_40 rfl ?_
        refine at_sub (lv' := [(0, vr g 94), (1, vi v1), (2, vi (jor t0 t1)), (3, vi (ja v3 1))]) [2, 3, 1, 0] rfl ?_
        exact ih4 _ hF (jor_R t0 t1) (ja_R v3 1)
      refine at_iload_n (pc := 12) C 2 dX12_relatedTo_12 rfl rfl ?_
      refine at_aload_n (pc := 13) C 0 dX12_relatedTo_13 rfl rfl ?_
      refine at_iload_n (pc := 14) C 1 dX12_relatedTo_14 rfl rfl ?_
      refine at_iload_n (pc := 15) C 3 dX12_relatedTo_15 rfl rfl ?_
      refine at_aload_n (pc := 16) C 0 dX12_relatedTo_16 rfl rfl ?_
      refine at_getr (pc := 17) (k' := 100) C 6 fw_12_29 kd94 rfl (Nat.le_of_ble_eq_true rfl) rfl rfl dX12_relatedTo_17 ?_
      refine at_iconst (pc := 20) C dX12_relatedTo_20 ?_
      obtain ⟨b2, hF⟩ := inb_some hF
      refine at_iaload (pc := 21) C kd100 b2 dX12_relatedTo_21 ?_
      obtain ⟨q3, eq3, hF⟩ := bind_some' hF
      refine at_callV (pc := 22) (ci := 12) C (c_X12_areRelated l g N v1 v3 (σ.1 100 0) σ q3 h1 h3 (ok 100 0) ok eq3) kv_X12_areRelated w1618 kd94 rfl rfl rfl rfl (Nat.le_of_ble_eq_true rfl) ⟨rfl, rfl, (Nat.le_of_ble_eq_true rfl), (Nat.le_of_ble_eq_true rfl)⟩ dX12_relatedTo_22 (fun tq3 okq3 => ?_)
      refine at_if_eq (pc := 25) (tgt := 34) C (isB.r tq3) dX12_relatedTo_25 rfl (fun c4 => ?_) (fun c4 => ?_)
      · have hF := (if_pos c4).symm.trans hF
        refine at_iconst (pc := 34) C dX12_relatedTo_34 ?_
        refine at_sub (lv' := [(0, vr g 94), (1, vi v1), (3, vi v3)]) [0, 1, 3] rfl ?_
        exact J35 v3 v2 0 h3 h2 (isB.r (Or.inl rfl)) hF
      · have hF := (if_neg c4).symm.trans hF
        refine at_iconst (pc := 28) C dX12_relatedTo_28 ?_
        refine at_iload_n (pc := 29) C 3 dX12_relatedTo_29 rfl rfl ?_
        refine at_ishl (pc := 30) C dX12_relatedTo_30 ?_
        refine at_goto (pc := 31) (tgt := 35) C dX12_relatedTo_31 rfl ?_
        refine at_sub (lv' := [(0, vr g 94), (1, vi v1), (3, vi v3)]) [0, 1, 3] rfl ?_
        exact J35 v3 v2 (jshl 1 v3) h3 h2 (jshl_R 1 v3) hF
  refine at_sub (lv' := [(0, vr g 94), (1, vi v1), (2, vi 0), (3, vi 0)]) [2, 3, 1, 0] rfl ?_
  exact L4 v1 0 0 h1 (isB.r (Or.inl rfl)) (isB.r (Or.inl rfl)) hF
abbrev rm_X12_related : Room := { frames := 3, cells := 0, slots := 0, locals := 72 }
def F_X12_related (N : Nat) (v1 : Int) (v2 : Int) (σ : Sto) : Option (Int × Sto) :=
  (F_X12_isMember N v1 (upI σ 94 2 0)).bind (fun q1 => if q1 = 0 then (some ((-1), (upI σ 94 2 0))) else ((F_X12_isDay N v2 (upI σ 94 2 0)).bind (fun q3 => if q3 = 0 then (some ((-1), (upI σ 94 2 0))) else ((F_X12_laysShares N v2 (upI σ 94 2 0)).bind (fun q5 => (F_X12_relatedTo N v1 q5).bind (fun q6 => some (q6, q5)))))))
set_option maxHeartbeats 4000000 in
set_option maxRecDepth 100000 in
theorem c_X12_related (l : Launch) (g : Geo) (N : Nat) (v1 : Int) (v2 : Int) (σ : Sto) (res : Int × Sto) (h1 : inR v1) (h2 : inR v2) (ok : OK σ) (hF : F_X12_related N v1 v2 σ = some res) : MtI l g yX12_related cX12_related 3 (some .int) rm_X12_related [vr g 94, vi v1, vi v2] σ res.1 res.2 inR := by
  intro sz
  refine Met.ofAt (own := RX12) (QQ := fun z => QI g z res.1 res.2 inR) (by decide +kernel) (Nat.le_of_ble_eq_true rfl) rfl ?_
  intro p e s m args below meth c C hr hlk
  show At p l e rm_X12_related s m args below meth c 0 0 g 3 (MQ below (QI g s.heap.size res.1 res.2 inR) args s 0 0 (AA g s.heap.size)) 0 [(0, vr g 94), (1, vi v1), (2, vi v2)] [] σ
  unfold F_X12_related at hF
  refine at_aload_n (pc := 0) C 0 dX12_related_0 rfl rfl ?_
  refine at_iconst (pc := 1) C dX12_related_1 ?_
  refine at_puti (pc := 2) (jz := 2) C fu_12_81 kd94 rfl (Nat.le_of_ble_eq_true rfl) rfl rfl dX12_related_2 ?_
  refine at_aload_n (pc := 5) C 0 dX12_related_5 rfl rfl ?_
  refine at_iload_n (pc := 6) C 1 dX12_related_6 rfl rfl ?_
  obtain ⟨q1, eq1, hF⟩ := bind_some' hF
  refine at_callV (pc := 7) (ci := 12) C (c_X12_isMember l g N v1 (upI σ 94 2 0) q1 h1 (OK_up (k := 94) (j := 2) ok (isB.r (Or.inl rfl))) eq1) kv_X12_isMember w1727 kd94 rfl rfl rfl rfl (Nat.le_of_ble_eq_true rfl) ⟨rfl, rfl, (Nat.le_of_ble_eq_true rfl), (Nat.le_of_ble_eq_true rfl)⟩ dX12_related_7 (fun tq1 okq1 => ?_)
  refine at_if_eq (pc := 10) (tgt := 20) C (isB.r tq1) dX12_related_10 rfl (fun c2 => ?_) (fun c2 => ?_)
  · have hF := (if_pos c2).symm.trans hF
    refine at_iconst (pc := 20) C dX12_related_20 ?_
    obtain rfl := Option.some.inj hF
    exact at_iret (pc := 21) C hr hlk (show inR (-1) from ⟨by decide, by decide⟩) (OK_up (k := 94) (j := 2) ok (isB.r (Or.inl rfl))) dX12_related_21
  · have hF := (if_neg c2).symm.trans hF
    refine at_iload_n (pc := 13) C 2 dX12_related_13 rfl rfl ?_
    obtain ⟨q3, eq3, hF⟩ := bind_some' hF
    refine at_callS (pc := 14) C (c_X12_isDay l g N v2 (upI σ 94 2 0) q3 h2 (OK_up (k := 94) (j := 2) ok (isB.r (Or.inl rfl))) eq3) ks_X12_isDay w1731 rfl rfl (Nat.le_of_ble_eq_true rfl) ⟨rfl, rfl, (Nat.le_of_ble_eq_true rfl), (Nat.le_of_ble_eq_true rfl)⟩ dX12_related_14 (fun tq3 okq3 => ?_)
    refine at_if_ne (pc := 17) (tgt := 22) C (isB.r tq3) dX12_related_17 rfl (fun c4 => ?_) (fun c4 => ?_)
    · have hF := (if_neg c4).symm.trans hF
      refine at_aload_n (pc := 22) C 0 dX12_related_22 rfl rfl ?_
      refine at_iload_n (pc := 23) C 2 dX12_related_23 rfl rfl ?_
      obtain ⟨q5, eq5, hF⟩ := bind_some' hF
      refine at_callVv (pc := 24) (ci := 12) C (c_X12_laysShares l g N v2 (upI σ 94 2 0) q5 h2 (OK_up (k := 94) (j := 2) ok (isB.r (Or.inl rfl))) eq5) kv_X12_laysShares w1609 kd94 rfl rfl rfl rfl (Nat.le_of_ble_eq_true rfl) ⟨rfl, rfl, (Nat.le_of_ble_eq_true rfl), (Nat.le_of_ble_eq_true rfl)⟩ dX12_related_24 (fun okq5 => ?_)
      refine at_aload_n (pc := 27) C 0 dX12_related_27 rfl rfl ?_
      refine at_iload_n (pc := 28) C 1 dX12_related_28 rfl rfl ?_
      obtain ⟨q6, eq6, hF⟩ := bind_some' hF
      refine at_callV (pc := 29) (ci := 12) C (c_X12_relatedTo l g N v1 q5 q6 h1 okq5 eq6) kv_X12_relatedTo w1787 kd94 rfl rfl rfl rfl (Nat.le_of_ble_eq_true rfl) ⟨rfl, rfl, (Nat.le_of_ble_eq_true rfl), (Nat.le_of_ble_eq_true rfl)⟩ dX12_related_29 (fun tq6 okq6 => ?_)
      obtain rfl := Option.some.inj hF
      exact at_iret (pc := 32) C hr hlk tq6 okq5 dX12_related_32
    · have hF := (if_pos c4).symm.trans hF
      refine at_iconst (pc := 20) C dX12_related_20 ?_
      obtain rfl := Option.some.inj hF
      exact at_iret (pc := 21) C hr hlk (show inR (-1) from ⟨by decide, by decide⟩) (OK_up (k := 94) (j := 2) ok (isB.r (Or.inl rfl))) dX12_related_21
abbrev rm_X12_groups : Room := { frames := 3, cells := 0, slots := 0, locals := 72 }
def F_X12_groups_J123 (N : Nat) (nx26 : (Int × Int × Int) → Option (Int × Sto)) (v2 : Int) (v3 : Int) (v4 : Int) (σ : Sto) : Option (Int × Sto) :=
  nx26 (v2, v3, (ja v4 1))
def F_X12_groups_J118 (N : Nat) (nx26 : (Int × Int × Int) → Option (Int × Sto)) (v2 : Int) (v3 : Int) (v4 : Int) (v5 : Int) (σ : Sto) : Option (Int × Sto) :=
  F_X12_groups_J123 N nx26 (jor v2 v5) v3 v4 σ
def F_X12_groups_J115 (N : Nat) (nx26 : (Int × Int × Int) → Option (Int × Sto)) (nx60 : (Int × Int) → Option (Int × Sto)) (v2 : Int) (v3 : Int) (v4 : Int) (v5 : Int) (v6 : Int) (σ : Sto) : Option (Int × Sto) :=
  nx60 (v5, v6)
def F_X12_groups_J106 (N : Nat) (nx26 : (Int × Int × Int) → Option (Int × Sto)) (nx60 : (Int × Int) → Option (Int × Sto)) (nx74 : (Int × Int) → Option (Int × Sto)) (v2 : Int) (v3 : Int) (v4 : Int) (v6 : Int) (v7 : Int) (t0 : Int) (t1 : Int) (σ : Sto) : Option (Int × Sto) :=
  nx74 ((jor t0 t1), (ja v7 1))
def F_X12_groups_B74 (N : Nat) (nx26 : (Int × Int × Int) → Option (Int × Sto)) (nx60 : (Int × Int) → Option (Int × Sto)) (nx74 : (Int × Int) → Option (Int × Sto)) (v2 : Int) (v3 : Int) (v4 : Int) (v6 : Int) (v5 : Int) (v7 : Int) (σ : Sto) : Option (Int × Sto) :=
  if (σ.1 94 11) ≤ v7 then (F_X12_groups_J115 N nx26 nx60 v2 v3 v4 v5 v6 σ) else (if (jand (jshr v6 v7) 1) = 1 then ((F_X12_relatedTo N v7 σ).bind (fun q9 => F_X12_groups_J106 N nx26 nx60 nx74 v2 v3 v4 v6 v7 v5 q9 σ)) else (F_X12_groups_J106 N nx26 nx60 nx74 v2 v3 v4 v6 v7 v5 0 σ))
def F_X12_groups_B60 (N : Nat) (nx26 : (Int × Int × Int) → Option (Int × Sto)) (nx60 : (Int × Int) → Option (Int × Sto)) (v2 : Int) (v3 : Int) (v4 : Int) (v5 : Int) (v6 : Int) (σ : Sto) : Option (Int × Sto) :=
  if v5 = v6 then (F_X12_groups_J118 N nx26 v2 v3 v4 v5 σ) else (loopK (fun q nx74 => F_X12_groups_B74 N nx26 nx60 nx74 v2 v3 v4 v5 q.1 q.2 σ) N (v5, 0))
def F_X12_groups_B26 (N : Nat) (nx26 : (Int × Int × Int) → Option (Int × Sto))  (v2 : Int) (v3 : Int) (v4 : Int) (σ : Sto) : Option (Int × Sto) :=
  if (σ.1 94 11) ≤ v4 then (some (v3, σ)) else (if (jand (jshr v2 v4) 1) = 1 then (F_X12_groups_J123 N nx26 v2 v3 v4 σ) else (loopK (fun q nx60 => F_X12_groups_B60 N nx26 nx60 v2 (ja v3 1) v4 q.1 q.2 σ) N ((jshl 1 v4), 0)))
def F_X12_groups (N : Nat) (v1 : Int) (σ : Sto) : Option (Int × Sto) :=
  (F_X12_isDay N v1 (upI σ 94 2 0)).bind (fun q1 => if q1 = 0 then (some ((-1), (upI σ 94 2 0))) else ((F_X12_laysShares N v1 (upI σ 94 2 0)).bind (fun q3 => loopK (fun q nx26 => F_X12_groups_B26 N  nx26  q.1 q.2.1 q.2.2 q3) N (0, 0, 0))))
set_option maxHeartbeats 4000000 in
set_option maxRecDepth 100000 in
theorem c_X12_groups (l : Launch) (g : Geo) (N : Nat) (v1 : Int) (σ : Sto) (res : Int × Sto) (h1 : inR v1) (ok : OK σ) (hF : F_X12_groups N v1 σ = some res) : MtI l g yX12_groups cX12_groups 8 (some .int) rm_X12_groups [vr g 94, vi v1] σ res.1 res.2 inR := by
  intro sz
  refine Met.ofAt (own := RX12) (QQ := fun z => QI g z res.1 res.2 inR) (by decide +kernel) (Nat.le_of_ble_eq_true rfl) rfl ?_
  intro p e s m args below meth c C hr hlk
  show At p l e rm_X12_groups s m args below meth c 0 0 g 8 (MQ below (QI g s.heap.size res.1 res.2 inR) args s 0 0 (AA g s.heap.size)) 0 [(0, vr g 94), (1, vi v1)] [] σ
  unfold F_X12_groups at hF
  refine at_aload_n (pc := 0) C 0 dX12_groups_0 rfl rfl ?_
  refine at_iconst (pc := 1) C dX12_groups_1 ?_
  refine at_puti (pc := 2) (jz := 2) C fu_12_81 kd94 rfl (Nat.le_of_ble_eq_true rfl) rfl rfl dX12_groups_2 ?_
  refine at_iload_n (pc := 5) C 1 dX12_groups_5 rfl rfl ?_
  obtain ⟨q1, eq1, hF⟩ := bind_some' hF
  refine at_callS (pc := 6) C (c_X12_isDay l g N v1 (upI σ 94 2 0) q1 h1 (OK_up (k := 94) (j := 2) ok (isB.r (Or.inl rfl))) eq1) ks_X12_isDay w1731 rfl rfl (Nat.le_of_ble_eq_true rfl) ⟨rfl, rfl, (Nat.le_of_ble_eq_true rfl), (Nat.le_of_ble_eq_true rfl)⟩ dX12_groups_6 (fun tq1 okq1 => ?_)
  refine at_if_ne (pc := 9) (tgt := 14) C (isB.r tq1) dX12_groups_9 rfl (fun c2 => ?_) (fun c2 => ?_)
  · have hF := (if_neg c2).symm.trans hF
    refine at_aload_n (pc := 14) C 0 dX12_groups_14 rfl rfl ?_
    refine at_iload_n (pc := 15) C 1 dX12_groups_15 rfl rfl ?_
    obtain ⟨q3, eq3, hF⟩ := bind_some' hF
    refine at_callVv (pc := 16) (ci := 12) C (c_X12_laysShares l g N v1 (upI σ 94 2 0) q3 h1 (OK_up (k := 94) (j := 2) ok (isB.r (Or.inl rfl))) eq3) kv_X12_laysShares w1609 kd94 rfl rfl rfl rfl (Nat.le_of_ble_eq_true rfl) ⟨rfl, rfl, (Nat.le_of_ble_eq_true rfl), (Nat.le_of_ble_eq_true rfl)⟩ dX12_groups_16 (fun okq3 => ?_)
    refine at_iconst (pc := 19) C dX12_groups_19 ?_
    refine at_istore_n (pc := 20) (lv' := [(2, vi 0), (0, vr g 94), (1, vi v1)]) C dX12_groups_20 rfl (Nat.le_of_ble_eq_true rfl) rfl ?_
    refine at_iconst (pc := 21) C dX12_groups_21 ?_
    refine at_istore_n (pc := 22) (lv' := [(3, vi 0), (2, vi 0), (0, vr g 94), (1, vi v1)]) C dX12_groups_22 rfl (Nat.le_of_ble_eq_true rfl) rfl ?_
    refine at_iconst (pc := 23) C dX12_groups_23 ?_
    refine at_istore (pc := 24) (lv' := [(4, vi 0), (3, vi 0), (2, vi 0), (0, vr g 94), (1, vi v1)]) C dX12_groups_24 (Nat.le_of_ble_eq_true rfl) rfl ?_
    have L26 : ∀ (v2 : Int) (v3 : Int) (v4 : Int) (σ : Sto), inR v2 → inR v3 → inR v4 → OK σ → loopK (fun q nx26 => F_X12_groups_B26 N  nx26  q.1 q.2.1 q.2.2 σ) N (v2, v3, v4) = some res → At p l e rm_X12_groups s m args below meth c 0 0 g 8 (MQ below (QI g s.heap.size res.1 res.2 inR) args s 0 0 (AA g s.heap.size)) 26 [(0, vr g 94), (2, vi v2), (3, vi v3), (4, vi v4)] [] σ := by
      intro v2 v3 v4 σ h2 h3 h4 ok hF
      refine loopK_ind (res := res) (P := fun (q : Int × Int × Int) => inR q.1 → inR q.2.1 → inR q.2.2 → At p l e rm_X12_groups s m args below meth c 0 0 g 8 (MQ below (QI g s.heap.size res.1 res.2 inR) args s 0 0 (AA g s.heap.size)) 26 [(0, vr g 94), (2, vi q.1), (3, vi q.2.1), (4, vi q.2.2)] [] σ) ?_ N _ hF h2 h3 h4
      intro nx26 q ih26 hF
      obtain ⟨v2, v3, v4⟩ := q
      intro h2 h3 h4
      have hF : F_X12_groups_B26 N  nx26  v2 v3 v4 σ = some res := hF
      unfold F_X12_groups_B26 at hF
      refine at_iload (pc := 26) C 3 dX12_groups_26 rfl ?_
      refine at_aload_n (pc := 28) C 0 dX12_groups_28 rfl rfl ?_
      refine at_geti (pc := 29) (jz := 11) C fw_12_132 kd94 rfl (Nat.le_of_ble_eq_true rfl) rfl rfl dX12_groups_29 ?_
      refine at_icmp_ge (pc := 32) (tgt := 129) C h4 (ok 94 11) dX12_groups_32 rfl (fun c4 => ?_) (fun c4 => ?_)
      · have hF := (if_pos c4).symm.trans hF
        refine at_iload_n (pc := 129) C 2 dX12_groups_129 rfl rfl ?_
        obtain rfl := Option.some.inj hF
        exact at_iret (pc := 130) C hr hlk h3 ok dX12_groups_130
      · have hF := (if_neg c4).symm.trans hF
        have J123 : ∀ (v2 : Int) (v3 : Int) (v4 : Int), inR v2 → inR v3 → inR v4 → F_X12_groups_J123 N nx26 v2 v3 v4 σ = some res → At p l e rm_X12_groups s m args below meth c 0 0 g 8 (MQ below (QI g s.heap.size res.1 res.2 inR) args s 0 0 (AA g s.heap.size)) 123 [(0, vr g 94), (2, vi v2), (3, vi v3), (4, vi v4)] [] σ := by
          intro v2 v3 v4 h2 h3 h4 hF
          unfold F_X12_groups_J123 at hF
          refine at_iinc (pc := 123) (lv' := [(4, vi (ja v4 1)), (0, vr g 94), (2, vi v2), (3, vi v3)]) C 3 dX12_groups_123 rfl (Nat.le_of_ble_eq_true rfl) rfl ?_
          refine at_goto (pc := 126) (tgt := 26) C dX12_groups_126 rfl ?_
          refine at_sub (lv' := [(0, vr g 94), (2, vi v2), (3, vi v3), (4, vi (ja v4 1))]) [1, 2, 3, 0] rfl ?_
          exact ih26 _ hF h2 h3 (ja_R v4 1)
        refine at_iload_n (pc := 35) C 1 dX12_groups_35 rfl rfl ?_
        refine at_iload (pc := 36) C 3 dX12_groups_36 rfl ?_
        refine at_ishr (pc := 38) C dX12_groups_38 ?_
        refine at_iconst (pc := 39) C dX12_groups_39 ?_
        refine at_iand (pc := 40) C dX12_groups_40 ?_
        refine at_iconst (pc := 41) C dX12_groups_41 ?_
        refine at_icmp_ne (pc := 42) (tgt := 48) C (jand_R (jshr v2 v4) 1) (isB.r (Or.inr rfl)) dX12_groups_42 rfl (fun c5 => ?_) (fun c5 => ?_)
        · have hF := (if_neg c5).symm.trans hF
          refine at_iinc (pc := 48) (lv' := [(3, vi (ja v3 1)), (0, vr g 94), (2, vi v2), (4, vi v4)]) C 2 dX12_groups_48 rfl (Nat.le_of_ble_eq_true rfl) rfl ?_
          refine at_iconst (pc := 51) C dX12_groups_51 ?_
          refine at_iload (pc := 52) C 3 dX12_groups_52 rfl ?_
          refine at_ishl (pc := 54) C dX12_groups_54 ?_
          refine at_istore (pc := 55) (lv' := [(5, vi (jshl 1 v4)), (3, vi (ja v3 1)), (0, vr g 94), (2, vi v2), (4, vi v4)]) C dX12_groups_55 (Nat.le_of_ble_eq_true rfl) rfl ?_
          refine at_iconst (pc := 57) C dX12_groups_57 ?_
          refine at_istore (pc := 58) (lv' := [(6, vi 0), (5, vi (jshl 1 v4)), (3, vi (ja v3 1)), (0, vr g 94), (2, vi v2), (4, vi v4)]) C dX12_groups_58 (Nat.le_of_ble_eq_true rfl) rfl ?_
          have L60 : ∀ (v2 : Int) (v3 : Int) (v4 : Int) (v5 : Int) (v6 : Int), inR v2 → inR v3 → inR v4 → inR v5 → inR v6 → loopK (fun q nx60 => F_X12_groups_B60 N nx26 nx60 v2 v3 v4 q.1 q.2 σ) N (v5, v6) = some res → At p l e rm_X12_groups s m args below meth c 0 0 g 8 (MQ below (QI g s.heap.size res.1 res.2 inR) args s 0 0 (AA g s.heap.size)) 60 [(0, vr g 94), (2, vi v2), (3, vi v3), (4, vi v4), (5, vi v5), (6, vi v6)] [] σ := by
            intro v2 v3 v4 v5 v6 h2 h3 h4 h5 h6 hF
            refine loopK_ind (res := res) (P := fun (q : Int × Int) => inR q.1 → inR q.2 → At p l e rm_X12_groups s m args below meth c 0 0 g 8 (MQ below (QI g s.heap.size res.1 res.2 inR) args s 0 0 (AA g s.heap.size)) 60 [(0, vr g 94), (2, vi v2), (3, vi v3), (4, vi v4), (5, vi q.1), (6, vi q.2)] [] σ) ?_ N _ hF h5 h6
            intro nx60 q ih60 hF
            obtain ⟨v5, v6⟩ := q
            intro h5 h6
            have hF : F_X12_groups_B60 N nx26 nx60 v2 v3 v4 v5 v6 σ = some res := hF
            unfold F_X12_groups_B60 at hF
            have J118 : ∀ (v2 : Int) (v3 : Int) (v4 : Int) (v5 : Int), inR v2 → inR v3 → inR v4 → inR v5 → F_X12_groups_J118 N nx26 v2 v3 v4 v5 σ = some res → At p l e rm_X12_groups s m args below meth c 0 0 g 8 (MQ below (QI g s.heap.size res.1 res.2 inR) args s 0 0 (AA g s.heap.size)) 118 [(0, vr g 94), (2, vi v2), (3, vi v3), (4, vi v4), (5, vi v5)] [] σ := by
              intro v2 v3 v4 v5 h2 h3 h4 h5 hF
              unfold F_X12_groups_J118 at hF
              refine at_iload_n (pc := 118) C 1 dX12_groups_118 rfl rfl ?_
              refine at_iload (pc := 119) C 4 dX12_groups_119 rfl ?_
              refine at_ior (pc := 121) C dX12_groups_121 ?_
              refine at_istore_n (pc := 122) (lv' := [(2, vi (jor v2 v5)), (0, vr g 94), (3, vi v3), (4, vi v4), (5, vi v5)]) C dX12_groups_122 rfl (Nat.le_of_ble_eq_true rfl) rfl ?_
              refine at_sub (lv' := [(0, vr g 94), (2, vi (jor v2 v5)), (3, vi v3), (4, vi v4)]) [1, 0, 2, 3] rfl ?_
              exact J123 (jor v2 v5) v3 v4 (jor_R v2 v5) h3 h4 hF
            refine at_iload (pc := 60) C 4 dX12_groups_60 rfl ?_
            refine at_iload (pc := 62) C 5 dX12_groups_62 rfl ?_
            refine at_icmp_eq (pc := 64) (tgt := 118) C h5 h6 dX12_groups_64 rfl (fun c6 => ?_) (fun c6 => ?_)
            · have hF := (if_pos c6).symm.trans hF
              refine at_sub (lv' := [(0, vr g 94), (2, vi v2), (3, vi v3), (4, vi v4), (5, vi v5)]) [0, 1, 2, 3, 4] rfl ?_
              exact J118 v2 v3 v4 v5 h2 h3 h4 h5 hF
            · have hF := (if_neg c6).symm.trans hF
              refine at_iload (pc := 67) C 4 dX12_groups_67 rfl ?_
              refine at_istore (pc := 69) (lv' := [(6, vi v5), (0, vr g 94), (2, vi v2), (3, vi v3), (4, vi v4), (5, vi v5)]) C dX12_groups_69 (Nat.le_of_ble_eq_true rfl) rfl ?_
              refine at_iconst (pc := 71) C dX12_groups_71 ?_
              refine at_istore (pc := 72) (lv' := [(7, vi 0), (6, vi v5), (0, vr g 94), (2, vi v2), (3, vi v3), (4, vi v4), (5, vi v5)]) C dX12_groups_72 (Nat.le_of_ble_eq_true rfl) rfl ?_
              have L74 : ∀ (v5 : Int) (v6 : Int) (v7 : Int), inR v5 → inR v6 → inR v7 → loopK (fun q nx74 => F_X12_groups_B74 N nx26 nx60 nx74 v2 v3 v4 v6 q.1 q.2 σ) N (v5, v7) = some res → At p l e rm_X12_groups s m args below meth c 0 0 g 8 (MQ below (QI g s.heap.size res.1 res.2 inR) args s 0 0 (AA g s.heap.size)) 74 [(0, vr g 94), (2, vi v2), (3, vi v3), (4, vi v4), (5, vi v5), (6, vi v6), (7, vi v7)] [] σ := by
                intro v5 v6 v7 h5 h6 h7 hF
                refine loopK_ind (res := res) (P := fun (q : Int × Int) => inR q.1 → inR q.2 → At p l e rm_X12_groups s m args below meth c 0 0 g 8 (MQ below (QI g s.heap.size res.1 res.2 inR) args s 0 0 (AA g s.heap.size)) 74 [(0, vr g 94), (2, vi v2), (3, vi v3), (4, vi v4), (5, vi q.1), (6, vi v6), (7, vi q.2)] [] σ) ?_ N _ hF h5 h7
                intro nx74 q ih74 hF
                obtain ⟨v5, v7⟩ := q
                intro h5 h7
                have hF : F_X12_groups_B74 N nx26 nx60 nx74 v2 v3 v4 v6 v5 v7 σ = some res := hF
                unfold F_X12_groups_B74 at hF
                have J115 : ∀ (v5 : Int) (v6 : Int), inR v5 → inR v6 → F_X12_groups_J115 N nx26 nx60 v2 v3 v4 v5 v6 σ = some res → At p l e rm_X12_groups s m args below meth c 0 0 g 8 (MQ below (QI g s.heap.size res.1 res.2 inR) args s 0 0 (AA g s.heap.size)) 115 [(0, vr g 94), (2, vi v2), (3, vi v3), (4, vi v4), (5, vi v5), (6, vi v6)] [] σ := by
                  intro v5 v6 h5 h6 hF
                  unfold F_X12_groups_J115 at hF
                  refine at_goto (pc := 115) (tgt := 60) C dX12_groups_115 rfl ?_
                  exact ih60 _ hF h5 h6
                refine at_iload (pc := 74) C 6 dX12_groups_74 rfl ?_
                refine at_aload_n (pc := 76) C 0 dX12_groups_76 rfl rfl ?_
                refine at_geti (pc := 77) (jz := 11) C fw_12_132 kd94 rfl (Nat.le_of_ble_eq_true rfl) rfl rfl dX12_groups_77 ?_
                refine at_icmp_ge (pc := 80) (tgt := 115) C h7 (ok 94 11) dX12_groups_80 rfl (fun c7 => ?_) (fun c7 => ?_)
                · have hF := (if_pos c7).symm.trans hF
                  refine at_sub (lv' := [(0, vr g 94), (2, vi v2), (3, vi v3), (4, vi v4), (5, vi v5), (6, vi v6)]) [0, 1, 2, 3, 4, 5] rfl ?_
                  exact J115 v5 v6 h5 h6 hF
                · have hF := (if_neg c7).symm.trans hF
                  have J106 : ∀ (v7 : Int) (t0 : Int) (t1 : Int), inR v7 → inR t0 → inR t1 → F_X12_groups_J106 N nx26 nx60 nx74 v2 v3 v4 v6 v7 t0 t1 σ = some res → At p l e rm_X12_groups s m args below meth c 0 0 g 8 (MQ below (QI g s.heap.size res.1 res.2 inR) args s 0 0 (AA g s.heap.size)) 106 [(0, vr g 94), (2, vi v2), (3, vi v3), (4, vi v4), (6, vi v6), (7, vi v7)] [vi t1, vi t0] σ := by
                    intro v7 t0 t1 h7 ht0 ht1 hF
                    unfold F_X12_groups_J106 at hF
                    refine at_ior (pc := 106) C dX12_groups_106 ?_
                    refine at_istore (pc := 107) (lv' := [(5, vi (jor t0 t1)), (0, vr g 94), (2, vi v2), (3, vi v3), (4, vi v4), (6, vi v6), (7, vi v7)]) C dX12_groups_107 (Nat.le_of_ble_eq_true rfl) rfl ?_
                    refine at_iinc (pc := 109) (lv' := [(7, vi (ja v7 1)), (5, vi (jor t0 t1)), (0, vr g 94), (2, vi v2), (3, vi v3), (4, vi v4), (6, vi v6)]) C 6 dX12_groups_109 rfl (Nat.le_of_ble_eq_true rfl) rfl ?_
                    refine at_goto (pc := 112) (tgt := 74) C dX12_groups_112 rfl ?_
                    refine at_sub (lv' := [(0, vr g 94), (2, vi v2), (3, vi v3), (4, vi v4), (5, vi (jor t0 t1)), (6, vi v6), (7, vi (ja v7 1))]) [2, 3, 4, 5, 1, 6, 0] rfl ?_
                    exact ih74 _ hF (jor_R t0 t1) (ja_R v7 1)
                  refine at_iload (pc := 83) C 4 dX12_groups_83 rfl ?_
                  refine at_iload (pc := 85) C 5 dX12_groups_85 rfl ?_
                  refine at_iload (pc := 87) C 6 dX12_groups_87 rfl ?_
                  refine at_ishr (pc := 89) C dX12_groups_89 ?_
                  refine at_iconst (pc := 90) C dX12_groups_90 ?_
                  refine at_iand (pc := 91) C dX12_groups_91 ?_
                  refine at_iconst (pc := 92) C dX12_groups_92 ?_
                  refine at_icmp_ne (pc := 93) (tgt := 105) C (jand_R (jshr v6 v7) 1) (isB.r (Or.inr rfl)) dX12_groups_93 rfl (fun c8 => ?_) (fun c8 => ?_)
                  · have hF := (if_neg c8).symm.trans hF
                    refine at_iconst (pc := 105) C dX12_groups_105 ?_
                    refine at_sub (lv' := [(0, vr g 94), (2, vi v2), (3, vi v3), (4, vi v4), (6, vi v6), (7, vi v7)]) [0, 1, 2, 3, 5, 6] rfl ?_
                    exact J106 v7 v5 0 h7 h5 (isB.r (Or.inl rfl)) hF
                  · have hF := (if_pos c8).symm.trans hF
                    refine at_aload_n (pc := 96) C 0 dX12_groups_96 rfl rfl ?_
                    refine at_iload (pc := 97) C 6 dX12_groups_97 rfl ?_
                    obtain ⟨q9, eq9, hF⟩ := bind_some' hF
                    refine at_callV (pc := 99) (ci := 12) C (c_X12_relatedTo l g N v7 σ q9 h7 ok eq9) kv_X12_relatedTo w1787 kd94 rfl rfl rfl rfl (Nat.le_of_ble_eq_true rfl) ⟨rfl, rfl, (Nat.le_of_ble_eq_true rfl), (Nat.le_of_ble_eq_true rfl)⟩ dX12_groups_99 (fun tq9 okq9 => ?_)
                    refine at_goto (pc := 102) (tgt := 106) C dX12_groups_102 rfl ?_
                    refine at_sub (lv' := [(0, vr g 94), (2, vi v2), (3, vi v3), (4, vi v4), (6, vi v6), (7, vi v7)]) [0, 1, 2, 3, 5, 6] rfl ?_
                    exact J106 v7 v5 q9 h7 h5 tq9 hF
              refine at_sub (lv' := [(0, vr g 94), (2, vi v2), (3, vi v3), (4, vi v4), (5, vi v5), (6, vi v5), (7, vi 0)]) [2, 3, 4, 5, 6, 1, 0] rfl ?_
              exact L74 v5 v5 0 h5 h5 (isB.r (Or.inl rfl)) hF
          refine at_sub (lv' := [(0, vr g 94), (2, vi v2), (3, vi (ja v3 1)), (4, vi v4), (5, vi (jshl 1 v4)), (6, vi 0)]) [3, 4, 2, 5, 1, 0] rfl ?_
          exact L60 v2 (ja v3 1) v4 (jshl 1 v4) 0 h2 (ja_R v3 1) h4 (jshl_R 1 v4) (isB.r (Or.inl rfl)) hF
        · have hF := (if_pos c5).symm.trans hF
          refine at_goto (pc := 45) (tgt := 123) C dX12_groups_45 rfl ?_
          exact J123 v2 v3 v4 h2 h3 h4 hF
    refine at_sub (lv' := [(0, vr g 94), (2, vi 0), (3, vi 0), (4, vi 0)]) [3, 2, 1, 0] rfl ?_
    exact L26 0 0 0 q3 (isB.r (Or.inl rfl)) (isB.r (Or.inl rfl)) (isB.r (Or.inl rfl)) okq3 hF
  · have hF := (if_pos c2).symm.trans hF
    refine at_iconst (pc := 12) C dX12_groups_12 ?_
    obtain rfl := Option.some.inj hF
    exact at_iret (pc := 13) C hr hlk (show inR (-1) from ⟨by decide, by decide⟩) (OK_up (k := 94) (j := 2) ok (isB.r (Or.inl rfl))) dX12_groups_13
abbrev rm_X12_shared : Room := { frames := 4, cells := 0, slots := 0, locals := 97 }
def F_X12_shared (N : Nat) (v1 : Int) (v2 : Int) (σ : Sto) : Option (Int × Sto) :=
  (F_X12_isPeriod N v1 (upI σ 94 2 0)).bind (fun q1 => if q1 = 0 then (some ((-1), (upI σ 94 2 0))) else ((F_X12_isPeriod N v2 (upI σ 94 2 0)).bind (fun q3 => if q3 = 0 then (some ((-1), (upI σ 94 2 0))) else ((F_X12_memberOf N v1 (upI σ 94 2 0)).bind (fun q5 => (F_X12_memberOf N v2 (upI σ 94 2 0)).bind (fun q6 => if q5 = q6 then (some ((-1), (upI σ 94 2 0))) else (inb 0 8 ((F_X12_laysStretches N ((upI σ 94 2 0).1 100 0) (upI σ 94 2 0)).bind (fun q9 => (F_X12_sharedOf N v1 v2 q9).bind (fun q10 => some (q10, q9)))))))))))
set_option maxHeartbeats 4000000 in
set_option maxRecDepth 100000 in
theorem c_X12_shared (l : Launch) (g : Geo) (N : Nat) (v1 : Int) (v2 : Int) (σ : Sto) (res : Int × Sto) (h1 : inR v1) (h2 : inR v2) (ok : OK σ) (hF : F_X12_shared N v1 v2 σ = some res) : MtI l g yX12_shared cX12_shared 3 (some .int) rm_X12_shared [vr g 94, vi v1, vi v2] σ res.1 res.2 inR := by
  intro sz
  refine Met.ofAt (own := RX12) (QQ := fun z => QI g z res.1 res.2 inR) (by decide +kernel) (Nat.le_of_ble_eq_true rfl) rfl ?_
  intro p e s m args below meth c C hr hlk
  show At p l e rm_X12_shared s m args below meth c 0 0 g 3 (MQ below (QI g s.heap.size res.1 res.2 inR) args s 0 0 (AA g s.heap.size)) 0 [(0, vr g 94), (1, vi v1), (2, vi v2)] [] σ
  unfold F_X12_shared at hF
  refine at_aload_n (pc := 0) C 0 dX12_shared_0 rfl rfl ?_
  refine at_iconst (pc := 1) C dX12_shared_1 ?_
  refine at_puti (pc := 2) (jz := 2) C fu_12_81 kd94 rfl (Nat.le_of_ble_eq_true rfl) rfl rfl dX12_shared_2 ?_
  refine at_aload_n (pc := 5) C 0 dX12_shared_5 rfl rfl ?_
  refine at_iload_n (pc := 6) C 1 dX12_shared_6 rfl rfl ?_
  obtain ⟨q1, eq1, hF⟩ := bind_some' hF
  refine at_callV (pc := 7) (ci := 12) C (c_X12_isPeriod l g N v1 (upI σ 94 2 0) q1 h1 (OK_up (k := 94) (j := 2) ok (isB.r (Or.inl rfl))) eq1) kv_X12_isPeriod w1581 kd94 rfl rfl rfl rfl (Nat.le_of_ble_eq_true rfl) ⟨rfl, rfl, (Nat.le_of_ble_eq_true rfl), (Nat.le_of_ble_eq_true rfl)⟩ dX12_shared_7 (fun tq1 okq1 => ?_)
  refine at_if_eq (pc := 10) (tgt := 34) C (isB.r tq1) dX12_shared_10 rfl (fun c2 => ?_) (fun c2 => ?_)
  · have hF := (if_pos c2).symm.trans hF
    refine at_iconst (pc := 34) C dX12_shared_34 ?_
    obtain rfl := Option.some.inj hF
    exact at_iret (pc := 35) C hr hlk (show inR (-1) from ⟨by decide, by decide⟩) (OK_up (k := 94) (j := 2) ok (isB.r (Or.inl rfl))) dX12_shared_35
  · have hF := (if_neg c2).symm.trans hF
    refine at_aload_n (pc := 13) C 0 dX12_shared_13 rfl rfl ?_
    refine at_iload_n (pc := 14) C 2 dX12_shared_14 rfl rfl ?_
    obtain ⟨q3, eq3, hF⟩ := bind_some' hF
    refine at_callV (pc := 15) (ci := 12) C (c_X12_isPeriod l g N v2 (upI σ 94 2 0) q3 h2 (OK_up (k := 94) (j := 2) ok (isB.r (Or.inl rfl))) eq3) kv_X12_isPeriod w1581 kd94 rfl rfl rfl rfl (Nat.le_of_ble_eq_true rfl) ⟨rfl, rfl, (Nat.le_of_ble_eq_true rfl), (Nat.le_of_ble_eq_true rfl)⟩ dX12_shared_15 (fun tq3 okq3 => ?_)
    refine at_if_eq (pc := 18) (tgt := 34) C (isB.r tq3) dX12_shared_18 rfl (fun c4 => ?_) (fun c4 => ?_)
    · have hF := (if_pos c4).symm.trans hF
      refine at_iconst (pc := 34) C dX12_shared_34 ?_
      obtain rfl := Option.some.inj hF
      exact at_iret (pc := 35) C hr hlk (show inR (-1) from ⟨by decide, by decide⟩) (OK_up (k := 94) (j := 2) ok (isB.r (Or.inl rfl))) dX12_shared_35
    · have hF := (if_neg c4).symm.trans hF
      refine at_aload_n (pc := 21) C 0 dX12_shared_21 rfl rfl ?_
      refine at_iload_n (pc := 22) C 1 dX12_shared_22 rfl rfl ?_
      obtain ⟨q5, eq5, hF⟩ := bind_some' hF
      refine at_callV (pc := 23) (ci := 12) C (c_X12_memberOf l g N v1 (upI σ 94 2 0) q5 h1 (OK_up (k := 94) (j := 2) ok (isB.r (Or.inl rfl))) eq5) kv_X12_memberOf w1593 kd94 rfl rfl rfl rfl (Nat.le_of_ble_eq_true rfl) ⟨rfl, rfl, (Nat.le_of_ble_eq_true rfl), (Nat.le_of_ble_eq_true rfl)⟩ dX12_shared_23 (fun tq5 okq5 => ?_)
      refine at_aload_n (pc := 26) C 0 dX12_shared_26 rfl rfl ?_
      refine at_iload_n (pc := 27) C 2 dX12_shared_27 rfl rfl ?_
      obtain ⟨q6, eq6, hF⟩ := bind_some' hF
      refine at_callV (pc := 28) (ci := 12) C (c_X12_memberOf l g N v2 (upI σ 94 2 0) q6 h2 (OK_up (k := 94) (j := 2) ok (isB.r (Or.inl rfl))) eq6) kv_X12_memberOf w1593 kd94 rfl rfl rfl rfl (Nat.le_of_ble_eq_true rfl) ⟨rfl, rfl, (Nat.le_of_ble_eq_true rfl), (Nat.le_of_ble_eq_true rfl)⟩ dX12_shared_28 (fun tq6 okq6 => ?_)
      refine at_icmp_ne (pc := 31) (tgt := 36) C tq5 tq6 dX12_shared_31 rfl (fun c7 => ?_) (fun c7 => ?_)
      · have hF := (if_neg c7).symm.trans hF
        refine at_aload_n (pc := 36) C 0 dX12_shared_36 rfl rfl ?_
        refine at_aload_n (pc := 37) C 0 dX12_shared_37 rfl rfl ?_
        refine at_getr (pc := 38) (k' := 100) C 6 fw_12_29 kd94 rfl (Nat.le_of_ble_eq_true rfl) rfl rfl dX12_shared_38 ?_
        refine at_iconst (pc := 41) C dX12_shared_41 ?_
        obtain ⟨b8, hF⟩ := inb_some hF
        refine at_iaload (pc := 42) C kd100 b8 dX12_shared_42 ?_
        obtain ⟨q9, eq9, hF⟩ := bind_some' hF
        refine at_callVv (pc := 43) (ci := 12) C (c_X12_laysStretches l g N ((upI σ 94 2 0).1 100 0) (upI σ 94 2 0) q9 ((OK_up (k := 94) (j := 2) ok (isB.r (Or.inl rfl))) 100 0) (OK_up (k := 94) (j := 2) ok (isB.r (Or.inl rfl))) eq9) kv_X12_laysStretches w1605 kd94 rfl rfl rfl rfl (Nat.le_of_ble_eq_true rfl) ⟨rfl, rfl, (Nat.le_of_ble_eq_true rfl), (Nat.le_of_ble_eq_true rfl)⟩ dX12_shared_43 (fun okq9 => ?_)
        refine at_aload_n (pc := 46) C 0 dX12_shared_46 rfl rfl ?_
        refine at_iload_n (pc := 47) C 1 dX12_shared_47 rfl rfl ?_
        refine at_iload_n (pc := 48) C 2 dX12_shared_48 rfl rfl ?_
        obtain ⟨q10, eq10, hF⟩ := bind_some' hF
        refine at_callV (pc := 49) (ci := 12) C (c_X12_sharedOf l g N v1 v2 q9 q10 h1 h2 okq9 eq10) kv_X12_sharedOf w1634 kd94 rfl rfl rfl rfl (Nat.le_of_ble_eq_true rfl) ⟨rfl, rfl, (Nat.le_of_ble_eq_true rfl), (Nat.le_of_ble_eq_true rfl)⟩ dX12_shared_49 (fun tq10 okq10 => ?_)
        obtain rfl := Option.some.inj hF
        exact at_iret (pc := 52) C hr hlk tq10 okq9 dX12_shared_52
      · have hF := (if_pos c7).symm.trans hF
        refine at_iconst (pc := 34) C dX12_shared_34 ?_
        obtain rfl := Option.some.inj hF
        exact at_iret (pc := 35) C hr hlk (show inR (-1) from ⟨by decide, by decide⟩) (OK_up (k := 94) (j := 2) ok (isB.r (Or.inl rfl))) dX12_shared_35
abbrev rm_X12_bound : Room := { frames := 4, cells := 0, slots := 0, locals := 97 }
def F_X12_bound (N : Nat) (v1 : Int) (v2 : Int) (σ : Sto) : Option (Int × Sto) :=
  (F_X12_isLink N v1 v2 (upI σ 94 2 0)).bind (fun q1 => if q1 = 0 then (some ((-1), (upI σ 94 2 0))) else (inb 0 8 ((F_X12_laysStretches N ((upI σ 94 2 0).1 100 0) (upI σ 94 2 0)).bind (fun q4 => (F_X12_boundOf N v1 v2 q4).bind (fun q5 => some (q5, q4))))))
set_option maxHeartbeats 4000000 in
set_option maxRecDepth 100000 in
theorem c_X12_bound (l : Launch) (g : Geo) (N : Nat) (v1 : Int) (v2 : Int) (σ : Sto) (res : Int × Sto) (h1 : inR v1) (h2 : inR v2) (ok : OK σ) (hF : F_X12_bound N v1 v2 σ = some res) : MtI l g yX12_bound cX12_bound 3 (some .int) rm_X12_bound [vr g 94, vi v1, vi v2] σ res.1 res.2 inR := by
  intro sz
  refine Met.ofAt (own := RX12) (QQ := fun z => QI g z res.1 res.2 inR) (by decide +kernel) (Nat.le_of_ble_eq_true rfl) rfl ?_
  intro p e s m args below meth c C hr hlk
  show At p l e rm_X12_bound s m args below meth c 0 0 g 3 (MQ below (QI g s.heap.size res.1 res.2 inR) args s 0 0 (AA g s.heap.size)) 0 [(0, vr g 94), (1, vi v1), (2, vi v2)] [] σ
  unfold F_X12_bound at hF
  refine at_aload_n (pc := 0) C 0 dX12_bound_0 rfl rfl ?_
  refine at_iconst (pc := 1) C dX12_bound_1 ?_
  refine at_puti (pc := 2) (jz := 2) C fu_12_81 kd94 rfl (Nat.le_of_ble_eq_true rfl) rfl rfl dX12_bound_2 ?_
  refine at_aload_n (pc := 5) C 0 dX12_bound_5 rfl rfl ?_
  refine at_iload_n (pc := 6) C 1 dX12_bound_6 rfl rfl ?_
  refine at_iload_n (pc := 7) C 2 dX12_bound_7 rfl rfl ?_
  obtain ⟨q1, eq1, hF⟩ := bind_some' hF
  refine at_callV (pc := 8) (ci := 12) C (c_X12_isLink l g N v1 v2 (upI σ 94 2 0) q1 h1 h2 (OK_up (k := 94) (j := 2) ok (isB.r (Or.inl rfl))) eq1) kv_X12_isLink w1577 kd94 rfl rfl rfl rfl (Nat.le_of_ble_eq_true rfl) ⟨rfl, rfl, (Nat.le_of_ble_eq_true rfl), (Nat.le_of_ble_eq_true rfl)⟩ dX12_bound_8 (fun tq1 okq1 => ?_)
  refine at_if_ne (pc := 11) (tgt := 16) C (isB.r tq1) dX12_bound_11 rfl (fun c2 => ?_) (fun c2 => ?_)
  · have hF := (if_neg c2).symm.trans hF
    refine at_aload_n (pc := 16) C 0 dX12_bound_16 rfl rfl ?_
    refine at_aload_n (pc := 17) C 0 dX12_bound_17 rfl rfl ?_
    refine at_getr (pc := 18) (k' := 100) C 6 fw_12_29 kd94 rfl (Nat.le_of_ble_eq_true rfl) rfl rfl dX12_bound_18 ?_
    refine at_iconst (pc := 21) C dX12_bound_21 ?_
    obtain ⟨b3, hF⟩ := inb_some hF
    refine at_iaload (pc := 22) C kd100 b3 dX12_bound_22 ?_
    obtain ⟨q4, eq4, hF⟩ := bind_some' hF
    refine at_callVv (pc := 23) (ci := 12) C (c_X12_laysStretches l g N ((upI σ 94 2 0).1 100 0) (upI σ 94 2 0) q4 ((OK_up (k := 94) (j := 2) ok (isB.r (Or.inl rfl))) 100 0) (OK_up (k := 94) (j := 2) ok (isB.r (Or.inl rfl))) eq4) kv_X12_laysStretches w1605 kd94 rfl rfl rfl rfl (Nat.le_of_ble_eq_true rfl) ⟨rfl, rfl, (Nat.le_of_ble_eq_true rfl), (Nat.le_of_ble_eq_true rfl)⟩ dX12_bound_23 (fun okq4 => ?_)
    refine at_aload_n (pc := 26) C 0 dX12_bound_26 rfl rfl ?_
    refine at_iload_n (pc := 27) C 1 dX12_bound_27 rfl rfl ?_
    refine at_iload_n (pc := 28) C 2 dX12_bound_28 rfl rfl ?_
    obtain ⟨q5, eq5, hF⟩ := bind_some' hF
    refine at_callV (pc := 29) (ci := 12) C (c_X12_boundOf l g N v1 v2 q4 q5 h1 h2 okq4 eq5) kv_X12_boundOf w1630 kd94 rfl rfl rfl rfl (Nat.le_of_ble_eq_true rfl) ⟨rfl, rfl, (Nat.le_of_ble_eq_true rfl), (Nat.le_of_ble_eq_true rfl)⟩ dX12_bound_29 (fun tq5 okq5 => ?_)
    obtain rfl := Option.some.inj hF
    exact at_iret (pc := 32) C hr hlk tq5 okq4 dX12_bound_32
  · have hF := (if_pos c2).symm.trans hF
    refine at_iconst (pc := 14) C dX12_bound_14 ?_
    obtain rfl := Option.some.inj hF
    exact at_iret (pc := 15) C hr hlk (show inR (-1) from ⟨by decide, by decide⟩) (OK_up (k := 94) (j := 2) ok (isB.r (Or.inl rfl))) dX12_bound_15
abbrev rm_X12_room : Room := { frames := 4, cells := 0, slots := 0, locals := 97 }
def F_X12_room (N : Nat) (v1 : Int) (v2 : Int) (σ : Sto) : Option (Int × Sto) :=
  (F_X12_isLink N v1 v2 (upI σ 94 2 0)).bind (fun q1 => if q1 = 0 then (some ((-1), (upI σ 94 2 0))) else (inb 0 8 ((F_X12_laysStretches N ((upI σ 94 2 0).1 100 0) (upI σ 94 2 0)).bind (fun q4 => (F_X12_boundOf N v1 v2 q4).bind (fun q5 => (F_X12_claimedBy N v1 v2 q4).bind (fun q6 => some ((js q5 q6), q4)))))))
set_option maxHeartbeats 4000000 in
set_option maxRecDepth 100000 in
theorem c_X12_room (l : Launch) (g : Geo) (N : Nat) (v1 : Int) (v2 : Int) (σ : Sto) (res : Int × Sto) (h1 : inR v1) (h2 : inR v2) (ok : OK σ) (hF : F_X12_room N v1 v2 σ = some res) : MtI l g yX12_room cX12_room 3 (some .int) rm_X12_room [vr g 94, vi v1, vi v2] σ res.1 res.2 inR := by
  intro sz
  refine Met.ofAt (own := RX12) (QQ := fun z => QI g z res.1 res.2 inR) (by decide +kernel) (Nat.le_of_ble_eq_true rfl) rfl ?_
  intro p e s m args below meth c C hr hlk
  show At p l e rm_X12_room s m args below meth c 0 0 g 3 (MQ below (QI g s.heap.size res.1 res.2 inR) args s 0 0 (AA g s.heap.size)) 0 [(0, vr g 94), (1, vi v1), (2, vi v2)] [] σ
  unfold F_X12_room at hF
  refine at_aload_n (pc := 0) C 0 dX12_room_0 rfl rfl ?_
  refine at_iconst (pc := 1) C dX12_room_1 ?_
  refine at_puti (pc := 2) (jz := 2) C fu_12_81 kd94 rfl (Nat.le_of_ble_eq_true rfl) rfl rfl dX12_room_2 ?_
  refine at_aload_n (pc := 5) C 0 dX12_room_5 rfl rfl ?_
  refine at_iload_n (pc := 6) C 1 dX12_room_6 rfl rfl ?_
  refine at_iload_n (pc := 7) C 2 dX12_room_7 rfl rfl ?_
  obtain ⟨q1, eq1, hF⟩ := bind_some' hF
  refine at_callV (pc := 8) (ci := 12) C (c_X12_isLink l g N v1 v2 (upI σ 94 2 0) q1 h1 h2 (OK_up (k := 94) (j := 2) ok (isB.r (Or.inl rfl))) eq1) kv_X12_isLink w1577 kd94 rfl rfl rfl rfl (Nat.le_of_ble_eq_true rfl) ⟨rfl, rfl, (Nat.le_of_ble_eq_true rfl), (Nat.le_of_ble_eq_true rfl)⟩ dX12_room_8 (fun tq1 okq1 => ?_)
  refine at_if_ne (pc := 11) (tgt := 16) C (isB.r tq1) dX12_room_11 rfl (fun c2 => ?_) (fun c2 => ?_)
  · have hF := (if_neg c2).symm.trans hF
    refine at_aload_n (pc := 16) C 0 dX12_room_16 rfl rfl ?_
    refine at_aload_n (pc := 17) C 0 dX12_room_17 rfl rfl ?_
    refine at_getr (pc := 18) (k' := 100) C 6 fw_12_29 kd94 rfl (Nat.le_of_ble_eq_true rfl) rfl rfl dX12_room_18 ?_
    refine at_iconst (pc := 21) C dX12_room_21 ?_
    obtain ⟨b3, hF⟩ := inb_some hF
    refine at_iaload (pc := 22) C kd100 b3 dX12_room_22 ?_
    obtain ⟨q4, eq4, hF⟩ := bind_some' hF
    refine at_callVv (pc := 23) (ci := 12) C (c_X12_laysStretches l g N ((upI σ 94 2 0).1 100 0) (upI σ 94 2 0) q4 ((OK_up (k := 94) (j := 2) ok (isB.r (Or.inl rfl))) 100 0) (OK_up (k := 94) (j := 2) ok (isB.r (Or.inl rfl))) eq4) kv_X12_laysStretches w1605 kd94 rfl rfl rfl rfl (Nat.le_of_ble_eq_true rfl) ⟨rfl, rfl, (Nat.le_of_ble_eq_true rfl), (Nat.le_of_ble_eq_true rfl)⟩ dX12_room_23 (fun okq4 => ?_)
    refine at_aload_n (pc := 26) C 0 dX12_room_26 rfl rfl ?_
    refine at_iload_n (pc := 27) C 1 dX12_room_27 rfl rfl ?_
    refine at_iload_n (pc := 28) C 2 dX12_room_28 rfl rfl ?_
    obtain ⟨q5, eq5, hF⟩ := bind_some' hF
    refine at_callV (pc := 29) (ci := 12) C (c_X12_boundOf l g N v1 v2 q4 q5 h1 h2 okq4 eq5) kv_X12_boundOf w1630 kd94 rfl rfl rfl rfl (Nat.le_of_ble_eq_true rfl) ⟨rfl, rfl, (Nat.le_of_ble_eq_true rfl), (Nat.le_of_ble_eq_true rfl)⟩ dX12_room_29 (fun tq5 okq5 => ?_)
    refine at_aload_n (pc := 32) C 0 dX12_room_32 rfl rfl ?_
    refine at_iload_n (pc := 33) C 1 dX12_room_33 rfl rfl ?_
    refine at_iload_n (pc := 34) C 2 dX12_room_34 rfl rfl ?_
    obtain ⟨q6, eq6, hF⟩ := bind_some' hF
    refine at_callV (pc := 35) (ci := 12) C (c_X12_claimedBy l g N v1 v2 q4 q6 h1 h2 okq4 eq6) kv_X12_claimedBy w1642 kd94 rfl rfl rfl rfl (Nat.le_of_ble_eq_true rfl) ⟨rfl, rfl, (Nat.le_of_ble_eq_true rfl), (Nat.le_of_ble_eq_true rfl)⟩ dX12_room_35 (fun tq6 okq6 => ?_)
    refine at_isub (pc := 38) C dX12_room_38 ?_
    obtain rfl := Option.some.inj hF
    exact at_iret (pc := 39) C hr hlk (js_R q5 q6) okq4 dX12_room_39
  · have hF := (if_pos c2).symm.trans hF
    refine at_iconst (pc := 14) C dX12_room_14 ?_
    obtain rfl := Option.some.inj hF
    exact at_iret (pc := 15) C hr hlk (show inR (-1) from ⟨by decide, by decide⟩) (OK_up (k := 94) (j := 2) ok (isB.r (Or.inl rfl))) dX12_room_15
abbrev rm_X12_price : Room := { frames := 3, cells := 0, slots := 0, locals := 67 }
def F_X12_price (N : Nat) (v1 : Int) (v2 : Int) (σ : Sto) : Option (Int × Sto) :=
  (F_X12_isLink N v1 v2 (upI σ 94 2 0)).bind (fun q1 => if q1 = 0 then (some ((-1), (upI σ 94 2 0))) else ((F_X12_priceOf N v1 v2 (upI σ 94 2 0)).bind (fun q3 => some (q3, (upI σ 94 2 0)))))
set_option maxHeartbeats 4000000 in
set_option maxRecDepth 100000 in
theorem c_X12_price (l : Launch) (g : Geo) (N : Nat) (v1 : Int) (v2 : Int) (σ : Sto) (res : Int × Sto) (h1 : inR v1) (h2 : inR v2) (ok : OK σ) (hF : F_X12_price N v1 v2 σ = some res) : MtI l g yX12_price cX12_price 3 (some .int) rm_X12_price [vr g 94, vi v1, vi v2] σ res.1 res.2 inR := by
  intro sz
  refine Met.ofAt (own := RX12) (QQ := fun z => QI g z res.1 res.2 inR) (by decide +kernel) (Nat.le_of_ble_eq_true rfl) rfl ?_
  intro p e s m args below meth c C hr hlk
  show At p l e rm_X12_price s m args below meth c 0 0 g 3 (MQ below (QI g s.heap.size res.1 res.2 inR) args s 0 0 (AA g s.heap.size)) 0 [(0, vr g 94), (1, vi v1), (2, vi v2)] [] σ
  unfold F_X12_price at hF
  refine at_aload_n (pc := 0) C 0 dX12_price_0 rfl rfl ?_
  refine at_iconst (pc := 1) C dX12_price_1 ?_
  refine at_puti (pc := 2) (jz := 2) C fu_12_81 kd94 rfl (Nat.le_of_ble_eq_true rfl) rfl rfl dX12_price_2 ?_
  refine at_aload_n (pc := 5) C 0 dX12_price_5 rfl rfl ?_
  refine at_iload_n (pc := 6) C 1 dX12_price_6 rfl rfl ?_
  refine at_iload_n (pc := 7) C 2 dX12_price_7 rfl rfl ?_
  obtain ⟨q1, eq1, hF⟩ := bind_some' hF
  refine at_callV (pc := 8) (ci := 12) C (c_X12_isLink l g N v1 v2 (upI σ 94 2 0) q1 h1 h2 (OK_up (k := 94) (j := 2) ok (isB.r (Or.inl rfl))) eq1) kv_X12_isLink w1577 kd94 rfl rfl rfl rfl (Nat.le_of_ble_eq_true rfl) ⟨rfl, rfl, (Nat.le_of_ble_eq_true rfl), (Nat.le_of_ble_eq_true rfl)⟩ dX12_price_8 (fun tq1 okq1 => ?_)
  refine at_if_eq (pc := 11) (tgt := 23) C (isB.r tq1) dX12_price_11 rfl (fun c2 => ?_) (fun c2 => ?_)
  · have hF := (if_pos c2).symm.trans hF
    refine at_iconst (pc := 23) C dX12_price_23 ?_
    obtain rfl := Option.some.inj hF
    exact at_iret (pc := 24) C hr hlk (show inR (-1) from ⟨by decide, by decide⟩) (OK_up (k := 94) (j := 2) ok (isB.r (Or.inl rfl))) dX12_price_24
  · have hF := (if_neg c2).symm.trans hF
    refine at_aload_n (pc := 14) C 0 dX12_price_14 rfl rfl ?_
    refine at_iload_n (pc := 15) C 1 dX12_price_15 rfl rfl ?_
    refine at_iload_n (pc := 16) C 2 dX12_price_16 rfl rfl ?_
    obtain ⟨q3, eq3, hF⟩ := bind_some' hF
    refine at_callV (pc := 17) (ci := 12) C (c_X12_priceOf l g N v1 v2 (upI σ 94 2 0) q3 h1 h2 (OK_up (k := 94) (j := 2) ok (isB.r (Or.inl rfl))) eq3) kv_X12_priceOf w1699 kd94 rfl rfl rfl rfl (Nat.le_of_ble_eq_true rfl) ⟨rfl, rfl, (Nat.le_of_ble_eq_true rfl), (Nat.le_of_ble_eq_true rfl)⟩ dX12_price_17 (fun tq3 okq3 => ?_)
    refine at_goto (pc := 20) (tgt := 24) C dX12_price_20 rfl ?_
    obtain rfl := Option.some.inj hF
    exact at_iret (pc := 24) C hr hlk tq3 (OK_up (k := 94) (j := 2) ok (isB.r (Or.inl rfl))) dX12_price_24
abbrev rm_X12_relief : Room := { frames := 6, cells := 0, slots := 0, locals := 142 }
def F_X12_relief (N : Nat) (v1 : Int) (v2 : Int) (σ : Sto) : Option (Int × Sto) :=
  (F_X12_isLink N v1 v2 (upI σ 94 2 0)).bind (fun q1 => if q1 = 0 then (some ((-1), (upI σ 94 2 0))) else ((F_X12_solves N (upI σ 94 2 0)).bind (fun q3 => inb (ja (jm 12 v1) v2) 144 (some ((q3.2.1 107 (ja (jm 12 v1) v2)), q3.2)))))
set_option maxHeartbeats 4000000 in
set_option maxRecDepth 100000 in
theorem c_X12_relief (l : Launch) (g : Geo) (N : Nat) (v1 : Int) (v2 : Int) (σ : Sto) (res : Int × Sto) (h1 : inR v1) (h2 : inR v2) (ok : OK σ) (hF : F_X12_relief N v1 v2 σ = some res) : MtI l g yX12_relief cX12_relief 3 (some .int) rm_X12_relief [vr g 94, vi v1, vi v2] σ res.1 res.2 inR := by
  intro sz
  refine Met.ofAt (own := RX12) (QQ := fun z => QI g z res.1 res.2 inR) (by decide +kernel) (Nat.le_of_ble_eq_true rfl) rfl ?_
  intro p e s m args below meth c C hr hlk
  show At p l e rm_X12_relief s m args below meth c 0 0 g 3 (MQ below (QI g s.heap.size res.1 res.2 inR) args s 0 0 (AA g s.heap.size)) 0 [(0, vr g 94), (1, vi v1), (2, vi v2)] [] σ
  unfold F_X12_relief at hF
  refine at_aload_n (pc := 0) C 0 dX12_relief_0 rfl rfl ?_
  refine at_iconst (pc := 1) C dX12_relief_1 ?_
  refine at_puti (pc := 2) (jz := 2) C fu_12_81 kd94 rfl (Nat.le_of_ble_eq_true rfl) rfl rfl dX12_relief_2 ?_
  refine at_aload_n (pc := 5) C 0 dX12_relief_5 rfl rfl ?_
  refine at_iload_n (pc := 6) C 1 dX12_relief_6 rfl rfl ?_
  refine at_iload_n (pc := 7) C 2 dX12_relief_7 rfl rfl ?_
  obtain ⟨q1, eq1, hF⟩ := bind_some' hF
  refine at_callV (pc := 8) (ci := 12) C (c_X12_isLink l g N v1 v2 (upI σ 94 2 0) q1 h1 h2 (OK_up (k := 94) (j := 2) ok (isB.r (Or.inl rfl))) eq1) kv_X12_isLink w1577 kd94 rfl rfl rfl rfl (Nat.le_of_ble_eq_true rfl) ⟨rfl, rfl, (Nat.le_of_ble_eq_true rfl), (Nat.le_of_ble_eq_true rfl)⟩ dX12_relief_8 (fun tq1 okq1 => ?_)
  refine at_if_ne (pc := 11) (tgt := 16) C (isB.r tq1) dX12_relief_11 rfl (fun c2 => ?_) (fun c2 => ?_)
  · have hF := (if_neg c2).symm.trans hF
    refine at_aload_n (pc := 16) C 0 dX12_relief_16 rfl rfl ?_
    obtain ⟨q3, eq3, hF⟩ := bind_some' hF
    refine at_callV (pc := 17) (ci := 12) C (c_X12_solves l g N  (upI σ 94 2 0) q3  (OK_up (k := 94) (j := 2) ok (isB.r (Or.inl rfl))) eq3) kv_X12_solves w1683 kd94 rfl rfl rfl rfl (Nat.le_of_ble_eq_true rfl) ⟨rfl, rfl, (Nat.le_of_ble_eq_true rfl), (Nat.le_of_ble_eq_true rfl)⟩ dX12_relief_17 (fun tq3 okq3 => ?_)
    refine at_pop (pc := 20) C dX12_relief_20 rfl ?_
    refine at_aload_n (pc := 21) C 0 dX12_relief_21 rfl rfl ?_
    refine at_getr (pc := 22) (k' := 107) C 13 fw_12_54 kd94 rfl (Nat.le_of_ble_eq_true rfl) rfl rfl dX12_relief_22 ?_
    refine at_bipush (pc := 25) C dX12_relief_25 (by decide) ?_
    refine at_iload_n (pc := 27) C 1 dX12_relief_27 rfl rfl ?_
    refine at_imul (pc := 28) C dX12_relief_28 ?_
    refine at_iload_n (pc := 29) C 2 dX12_relief_29 rfl rfl ?_
    refine at_iadd (pc := 30) C dX12_relief_30 ?_
    obtain ⟨b4, hF⟩ := inb_some hF
    refine at_iaload (pc := 31) C kd107 b4 dX12_relief_31 ?_
    obtain rfl := Option.some.inj hF
    exact at_iret (pc := 32) C hr hlk (okq3 107 (ja (jm 12 v1) v2)) okq3 dX12_relief_32
  · have hF := (if_pos c2).symm.trans hF
    refine at_iconst (pc := 14) C dX12_relief_14 ?_
    obtain rfl := Option.some.inj hF
    exact at_iret (pc := 15) C hr hlk (show inR (-1) from ⟨by decide, by decide⟩) (OK_up (k := 94) (j := 2) ok (isB.r (Or.inl rfl))) dX12_relief_15
