abbrev rm_X12_priceOf : Room := { frames := 2, cells := 0, slots := 0, locals := 43 }
def F_X12_priceOf (N : Nat) (v1 : Int) (v2 : Int) (σ : Sto) : Option (Int) :=
  (F_X12_isCarry N v1 v2 σ).bind (fun q1 => if q1 = 0 then ((F_X12_memberOf N v1 σ).bind (fun q3 => inb (ja (jm 3 q3) 1) 48 ((F_X12_memberOf N v2 σ).bind (fun q5 => inb (ja (jm 3 q5) 2) 48 (inb 1 8 (if (σ.1 100 1) = 0 then (some (σ.1 97 (ja (jm 3 q3) 1))) else (if (σ.1 100 1) = 1 then (some (js (ja (σ.1 97 (ja (jm 3 q3) 1)) 99) (σ.1 97 (ja (jm 3 q5) 2)))) else (if (σ.1 97 (ja (jm 3 q5) 2)) ≤ (σ.1 97 (ja (jm 3 q3) 1)) then (some (js (σ.1 97 (ja (jm 3 q3) 1)) (σ.1 97 (ja (jm 3 q5) 2)))) else (some (js (σ.1 97 (ja (jm 3 q5) 2)) (σ.1 97 (ja (jm 3 q3) 1)))))))))))) else (some 0))
set_option maxHeartbeats 4000000 in
set_option maxRecDepth 100000 in
theorem c_X12_priceOf (l : Launch) (g : Geo) (N : Nat) (v1 : Int) (v2 : Int) (σ : Sto) (res : Int) (h1 : inR v1) (h2 : inR v2) (ok : OK σ) (hF : F_X12_priceOf N v1 v2 σ = some res) : MtI l g yX12_priceOf cX12_priceOf 5 (some .int) rm_X12_priceOf [vr g 94, vi v1, vi v2] σ res σ inR := by
  intro sz
  refine Met.ofAt (own := RX12) (QQ := fun z => QI g z res σ inR) (by decide +kernel) (Nat.le_of_ble_eq_true rfl) rfl ?_
  intro p e s m args below meth c C hr hlk
  show At p l e rm_X12_priceOf s m args below meth c 0 0 g 5 (MQ below (QI g s.heap.size res σ inR) args s 0 0 (AA g s.heap.size)) 0 [(0, vr g 94), (1, vi v1), (2, vi v2)] [] σ
  unfold F_X12_priceOf at hF
  refine at_aload_n (pc := 0) C 0 dX12_priceOf_0 rfl rfl ?_
  refine at_iload_n (pc := 1) C 1 dX12_priceOf_1 rfl rfl ?_
  refine at_iload_n (pc := 2) C 2 dX12_priceOf_2 rfl rfl ?_
  obtain ⟨q1, eq1, hF⟩ := bind_some' hF
  refine at_callV (pc := 3) (ci := 12) C (c_X12_isCarry l g N v1 v2 σ q1 h1 h2 ok eq1) kv_X12_isCarry w1589 kd94 rfl rfl rfl rfl (Nat.le_of_ble_eq_true rfl) ⟨rfl, rfl, (Nat.le_of_ble_eq_true rfl), (Nat.le_of_ble_eq_true rfl)⟩ dX12_priceOf_3 (fun tq1 okq1 => ?_)
  refine at_if_eq (pc := 6) (tgt := 11) C (isB.r tq1) dX12_priceOf_6 rfl (fun c2 => ?_) (fun c2 => ?_)
  · have hF := (if_pos c2).symm.trans hF
    refine at_aload_n (pc := 11) C 0 dX12_priceOf_11 rfl rfl ?_
    refine at_getr (pc := 12) (k' := 97) C 3 fw_12_20 kd94 rfl (Nat.le_of_ble_eq_true rfl) rfl rfl dX12_priceOf_12 ?_
    refine at_iconst (pc := 15) C dX12_priceOf_15 ?_
    refine at_aload_n (pc := 16) C 0 dX12_priceOf_16 rfl rfl ?_
    refine at_iload_n (pc := 17) C 1 dX12_priceOf_17 rfl rfl ?_
    obtain ⟨q3, eq3, hF⟩ := bind_some' hF
    refine at_callV (pc := 18) (ci := 12) C (c_X12_memberOf l g N v1 σ q3 h1 ok eq3) kv_X12_memberOf w1593 kd94 rfl rfl rfl rfl (Nat.le_of_ble_eq_true rfl) ⟨rfl, rfl, (Nat.le_of_ble_eq_true rfl), (Nat.le_of_ble_eq_true rfl)⟩ dX12_priceOf_18 (fun tq3 okq3 => ?_)
    refine at_imul (pc := 21) C dX12_priceOf_21 ?_
    refine at_iconst (pc := 22) C dX12_priceOf_22 ?_
    refine at_iadd (pc := 23) C dX12_priceOf_23 ?_
    obtain ⟨b4, hF⟩ := inb_some hF
    refine at_iaload (pc := 24) C kd97 b4 dX12_priceOf_24 ?_
    refine at_istore_n (pc := 25) (lv' := [(3, vi (σ.1 97 (ja (jm 3 q3) 1))), (0, vr g 94), (1, vi v1), (2, vi v2)]) C dX12_priceOf_25 rfl (Nat.le_of_ble_eq_true rfl) rfl ?_
    refine at_aload_n (pc := 26) C 1 dX12_priceOf_26 rfl rfl ?_
    refine at_getr (pc := 27) (k' := 97) C 3 fw_12_20 kd94 rfl (Nat.le_of_ble_eq_true rfl) rfl rfl dX12_priceOf_27 ?_
    refine at_iconst (pc := 30) C dX12_priceOf_30 ?_
    refine at_aload_n (pc := 31) C 1 dX12_priceOf_31 rfl rfl ?_
    refine at_iload_n (pc := 32) C 3 dX12_priceOf_32 rfl rfl ?_
    obtain ⟨q5, eq5, hF⟩ := bind_some' hF
    refine at_callV (pc := 33) (ci := 12) C (c_X12_memberOf l g N v2 σ q5 h2 ok eq5) kv_X12_memberOf w1593 kd94 rfl rfl rfl rfl (Nat.le_of_ble_eq_true rfl) ⟨rfl, rfl, (Nat.le_of_ble_eq_true rfl), (Nat.le_of_ble_eq_true rfl)⟩ dX12_priceOf_33 (fun tq5 okq5 => ?_)
    refine at_imul (pc := 36) C dX12_priceOf_36 ?_
    refine at_iconst (pc := 37) C dX12_priceOf_37 ?_
    refine at_iadd (pc := 38) C dX12_priceOf_38 ?_
    obtain ⟨b6, hF⟩ := inb_some hF
    refine at_iaload (pc := 39) C kd97 b6 dX12_priceOf_39 ?_
    refine at_istore (pc := 40) (lv' := [(4, vi (σ.1 97 (ja (jm 3 q5) 2))), (3, vi (σ.1 97 (ja (jm 3 q3) 1))), (0, vr g 94), (1, vi v1), (2, vi v2)]) C dX12_priceOf_40 (Nat.le_of_ble_eq_true rfl) rfl ?_
    refine at_aload_n (pc := 42) C 2 dX12_priceOf_42 rfl rfl ?_
    refine at_getr (pc := 43) (k' := 100) C 6 fw_12_29 kd94 rfl (Nat.le_of_ble_eq_true rfl) rfl rfl dX12_priceOf_43 ?_
    refine at_iconst (pc := 46) C dX12_priceOf_46 ?_
    obtain ⟨b7, hF⟩ := inb_some hF
    refine at_iaload (pc := 47) C kd100 b7 dX12_priceOf_47 ?_
    refine at_if_ne (pc := 48) (tgt := 53) C (ok 100 1) dX12_priceOf_48 rfl (fun c8 => ?_) (fun c8 => ?_)
    · have hF := (if_neg c8).symm.trans hF
      refine at_aload_n (pc := 53) C 2 dX12_priceOf_53 rfl rfl ?_
      refine at_getr (pc := 54) (k' := 100) C 6 fw_12_29 kd94 rfl (Nat.le_of_ble_eq_true rfl) rfl rfl dX12_priceOf_54 ?_
      refine at_iconst (pc := 57) C dX12_priceOf_57 ?_
      refine at_iaload (pc := 58) C kd100 b7 dX12_priceOf_58 ?_
      refine at_iconst (pc := 59) C dX12_priceOf_59 ?_
      refine at_icmp_ne (pc := 60) (tgt := 73) C (ok 100 1) (isB.r (Or.inr rfl)) dX12_priceOf_60 rfl (fun c9 => ?_) (fun c9 => ?_)
      · have hF := (if_neg c9).symm.trans hF
        refine at_iload_n (pc := 73) C 1 dX12_priceOf_73 rfl rfl ?_
        refine at_iload (pc := 74) C 0 dX12_priceOf_74 rfl ?_
        refine at_icmp_ge (pc := 76) (tgt := 86) C (ok 97 (ja (jm 3 q3) 1)) (ok 97 (ja (jm 3 q5) 2)) dX12_priceOf_76 rfl (fun c10 => ?_) (fun c10 => ?_)
        · have hF := (if_pos c10).symm.trans hF
          refine at_iload_n (pc := 86) C 1 dX12_priceOf_86 rfl rfl ?_
          refine at_iload (pc := 87) C 0 dX12_priceOf_87 rfl ?_
          refine at_isub (pc := 89) C dX12_priceOf_89 ?_
          obtain rfl := Option.some.inj hF
          exact at_iret (pc := 90) C hr hlk (js_R (σ.1 97 (ja (jm 3 q3) 1)) (σ.1 97 (ja (jm 3 q5) 2))) ok dX12_priceOf_90
        · have hF := (if_neg c10).symm.trans hF
          refine at_iload (pc := 79) C 0 dX12_priceOf_79 rfl ?_
          refine at_iload_n (pc := 81) C 1 dX12_priceOf_81 rfl rfl ?_
          refine at_isub (pc := 82) C dX12_priceOf_82 ?_
          refine at_goto (pc := 83) (tgt := 90) C dX12_priceOf_83 rfl ?_
          obtain rfl := Option.some.inj hF
          exact at_iret (pc := 90) C hr hlk (js_R (σ.1 97 (ja (jm 3 q5) 2)) (σ.1 97 (ja (jm 3 q3) 1))) ok dX12_priceOf_90
      · have hF := (if_pos c9).symm.trans hF
        refine at_iload_n (pc := 63) C 1 dX12_priceOf_63 rfl rfl ?_
        refine at_bipush (pc := 64) C dX12_priceOf_64 (by decide) ?_
        refine at_iadd (pc := 66) C dX12_priceOf_66 ?_
        refine at_iload (pc := 67) C 0 dX12_priceOf_67 rfl ?_
        refine at_isub (pc := 69) C dX12_priceOf_69 ?_
        refine at_goto (pc := 70) (tgt := 90) C dX12_priceOf_70 rfl ?_
        obtain rfl := Option.some.inj hF
        exact at_iret (pc := 90) C hr hlk (js_R (ja (σ.1 97 (ja (jm 3 q3) 1)) 99) (σ.1 97 (ja (jm 3 q5) 2))) ok dX12_priceOf_90
    · have hF := (if_pos c8).symm.trans hF
      refine at_iload_n (pc := 51) C 1 dX12_priceOf_51 rfl rfl ?_
      obtain rfl := Option.some.inj hF
      exact at_iret (pc := 52) C hr hlk (ok 97 (ja (jm 3 q3) 1)) ok dX12_priceOf_52
  · have hF := (if_neg c2).symm.trans hF
    refine at_iconst (pc := 9) C dX12_priceOf_9 ?_
    obtain rfl := Option.some.inj hF
    exact at_iret (pc := 10) C hr hlk (isB.r (Or.inl rfl)) ok dX12_priceOf_10
abbrev rm_X12_claimedOf : Room := { frames := 1, cells := 0, slots := 0, locals := 21 }
def F_X12_claimedOf_J55 (N : Nat) (nx4 : (Int × Int) → Option (Int)) (v1 : Int) (v3 : Int) (t0 : Int) (t1 : Int) (σ : Sto) : Option (Int) :=
  nx4 ((ja t0 t1), (ja v3 1))
def F_X12_claimedOf_J43 (N : Nat) (nx4 : (Int × Int) → Option (Int)) (v1 : Int) (v3 : Int) (v4 : Int) (t0 : Int) (σ : Sto) : Option (Int) :=
  (F_X12_of N (ja v4 2) σ).bind (fun q3 => F_X12_claimedOf_J55 N nx4 v1 v3 t0 q3 σ)
def F_X12_claimedOf_B4 (N : Nat) (nx4 : (Int × Int) → Option (Int)) (v1 : Int) (v2 : Int) (v3 : Int) (σ : Sto) : Option (Int) :=
  (F_X12_of N 0 σ).bind (fun q1 => if q1 ≤ v3 then (some v2) else ((F_X12_of N (ja 1 (jm 3 v3)) σ).bind (fun q4 => if q4 = v1 then (F_X12_claimedOf_J43 N nx4 v1 v3 (ja 1 (jm 3 v3)) v2 σ) else ((F_X12_of N (ja (ja 1 (jm 3 v3)) 1) σ).bind (fun q6 => if q6 = v1 then (F_X12_claimedOf_J43 N nx4 v1 v3 (ja 1 (jm 3 v3)) v2 σ) else (F_X12_claimedOf_J55 N nx4 v1 v3 v2 0 σ))))))
def F_X12_claimedOf (N : Nat) (v1 : Int) (σ : Sto) : Option (Int) :=
  loopK (fun q nx4 => F_X12_claimedOf_B4 N  nx4 v1 q.1 q.2 σ) N (0, 0)
set_option maxHeartbeats 4000000 in
set_option maxRecDepth 100000 in
theorem c_X12_claimedOf (l : Launch) (g : Geo) (N : Nat) (v1 : Int) (σ : Sto) (res : Int) (h1 : inR v1) (ok : OK σ) (hF : F_X12_claimedOf N v1 σ = some res) : MtI l g yX12_claimedOf cX12_claimedOf 5 (some .int) rm_X12_claimedOf [vr g 94, vi v1] σ res σ inR := by
  intro sz
  refine Met.ofAt (own := RX12) (QQ := fun z => QI g z res σ inR) (by decide +kernel) (Nat.le_of_ble_eq_true rfl) rfl ?_
  intro p e s m args below meth c C hr hlk
  show At p l e rm_X12_claimedOf s m args below meth c 0 0 g 5 (MQ below (QI g s.heap.size res σ inR) args s 0 0 (AA g s.heap.size)) 0 [(0, vr g 94), (1, vi v1)] [] σ
  unfold F_X12_claimedOf at hF
  refine at_iconst (pc := 0) C dX12_claimedOf_0 ?_
  refine at_istore_n (pc := 1) (lv' := [(2, vi 0), (0, vr g 94), (1, vi v1)]) C dX12_claimedOf_1 rfl (Nat.le_of_ble_eq_true rfl) rfl ?_
  refine at_iconst (pc := 2) C dX12_claimedOf_2 ?_
  refine at_istore_n (pc := 3) (lv' := [(3, vi 0), (2, vi 0), (0, vr g 94), (1, vi v1)]) C dX12_claimedOf_3 rfl (Nat.le_of_ble_eq_true rfl) rfl ?_
  have L4 : ∀ (v1 : Int) (v2 : Int) (v3 : Int), inR v1 → inR v2 → inR v3 → loopK (fun q nx4 => F_X12_claimedOf_B4 N  nx4 v1 q.1 q.2 σ) N (v2, v3) = some res → At p l e rm_X12_claimedOf s m args below meth c 0 0 g 5 (MQ below (QI g s.heap.size res σ inR) args s 0 0 (AA g s.heap.size)) 4 [(0, vr g 94), (1, vi v1), (2, vi v2), (3, vi v3)] [] σ := by
    intro v1 v2 v3 h1 h2 h3 hF
    refine loopK_ind (res := res) (P := fun (q : Int × Int) => inR q.1 → inR q.2 → At p l e rm_X12_claimedOf s m args below meth c 0 0 g 5 (MQ below (QI g s.heap.size res σ inR) args s 0 0 (AA g s.heap.size)) 4 [(0, vr g 94), (1, vi v1), (2, vi q.1), (3, vi q.2)] [] σ) ?_ N _ hF h2 h3
    intro nx4 q ih4 hF
    obtain ⟨v2, v3⟩ := q
    intro h2 h3
    have hF : F_X12_claimedOf_B4 N  nx4 v1 v2 v3 σ = some res := hF
    unfold F_X12_claimedOf_B4 at hF
    refine at_iload_n (pc := 4) C 3 dX12_claimedOf_4 rfl rfl ?_
    refine at_aload_n (pc := 5) C 0 dX12_claimedOf_5 rfl rfl ?_
    refine at_iconst (pc := 6) C dX12_claimedOf_6 ?_
    obtain ⟨q1, eq1, hF⟩ := bind_some' hF
    refine at_callV (pc := 7) (ci := 12) C (c_X12_of l g N 0 σ q1 (isB.r (Or.inl rfl)) ok eq1) kv_X12_of w1565 kd94 rfl rfl rfl rfl (Nat.le_of_ble_eq_true rfl) ⟨rfl, rfl, (Nat.le_of_ble_eq_true rfl), (Nat.le_of_ble_eq_true rfl)⟩ dX12_claimedOf_7 (fun tq1 okq1 => ?_)
    refine at_icmp_ge (pc := 10) (tgt := 63) C h3 tq1 dX12_claimedOf_10 rfl (fun c2 => ?_) (fun c2 => ?_)
    · have hF := (if_pos c2).symm.trans hF
      refine at_iload_n (pc := 63) C 2 dX12_claimedOf_63 rfl rfl ?_
      obtain rfl := Option.some.inj hF
      exact at_iret (pc := 64) C hr hlk h2 ok dX12_claimedOf_64
    · have hF := (if_neg c2).symm.trans hF
      have J55 : ∀ (v3 : Int) (t0 : Int) (t1 : Int), inR v3 → inR t0 → inR t1 → F_X12_claimedOf_J55 N nx4 v1 v3 t0 t1 σ = some res → At p l e rm_X12_claimedOf s m args below meth c 0 0 g 5 (MQ below (QI g s.heap.size res σ inR) args s 0 0 (AA g s.heap.size)) 55 [(0, vr g 94), (1, vi v1), (3, vi v3)] [vi t1, vi t0] σ := by
        intro v3 t0 t1 h3 ht0 ht1 hF
        unfold F_X12_claimedOf_J55 at hF
        refine at_iadd (pc := 55) C dX12_claimedOf_55 ?_
        refine at_istore_n (pc := 56) (lv' := [(2, vi (ja t0 t1)), (0, vr g 94), (1, vi v1), (3, vi v3)]) C dX12_claimedOf_56 rfl (Nat.le_of_ble_eq_true rfl) rfl ?_
        refine at_iinc (pc := 57) (lv' := [(3, vi (ja v3 1)), (2, vi (ja t0 t1)), (0, vr g 94), (1, vi v1)]) C 3 dX12_claimedOf_57 rfl (Nat.le_of_ble_eq_true rfl) rfl ?_
        refine at_goto (pc := 60) (tgt := 4) C dX12_claimedOf_60 rfl ?_
        refine at_sub (lv' := [(0, vr g 94), (1, vi v1), (2, vi (ja t0 t1)), (3, vi (ja v3 1))]) [2, 3, 1, 0] rfl ?_
        exact ih4 _ hF (ja_R t0 t1) (ja_R v3 1)
      have J43 : ∀ (v3 : Int) (v4 : Int) (t0 : Int), inR v3 → inR v4 → inR t0 → F_X12_claimedOf_J43 N nx4 v1 v3 v4 t0 σ = some res → At p l e rm_X12_claimedOf s m args below meth c 0 0 g 5 (MQ below (QI g s.heap.size res σ inR) args s 0 0 (AA g s.heap.size)) 43 [(0, vr g 94), (1, vi v1), (3, vi v3), (4, vi v4)] [vi t0] σ := by
        intro v3 v4 t0 h3 h4 ht0 hF
        unfold F_X12_claimedOf_J43 at hF
        refine at_aload_n (pc := 43) C 0 dX12_claimedOf_43 rfl rfl ?_
        refine at_iload (pc := 44) C 3 dX12_claimedOf_44 rfl ?_
        refine at_iconst (pc := 46) C dX12_claimedOf_46 ?_
        refine at_iadd (pc := 47) C dX12_claimedOf_47 ?_
        obtain ⟨q3, eq3, hF⟩ := bind_some' hF
        refine at_callV (pc := 48) (ci := 12) C (c_X12_of l g N (ja v4 2) σ q3 (ja_R v4 2) ok eq3) kv_X12_of w1565 kd94 rfl rfl rfl rfl (Nat.le_of_ble_eq_true rfl) ⟨rfl, rfl, (Nat.le_of_ble_eq_true rfl), (Nat.le_of_ble_eq_true rfl)⟩ dX12_claimedOf_48 (fun tq3 okq3 => ?_)
        refine at_goto (pc := 51) (tgt := 55) C dX12_claimedOf_51 rfl ?_
        refine at_sub (lv' := [(0, vr g 94), (1, vi v1), (3, vi v3)]) [0, 1, 2] rfl ?_
        exact J55 v3 t0 q3 h3 ht0 tq3 hF
      refine at_iconst (pc := 13) C dX12_claimedOf_13 ?_
      refine at_iconst (pc := 14) C dX12_claimedOf_14 ?_
      refine at_iload_n (pc := 15) C 3 dX12_claimedOf_15 rfl rfl ?_
      refine at_imul (pc := 16) C dX12_claimedOf_16 ?_
      refine at_iadd (pc := 17) C dX12_claimedOf_17 ?_
      refine at_istore (pc := 18) (lv' := [(4, vi (ja 1 (jm 3 v3))), (0, vr g 94), (1, vi v1), (2, vi v2), (3, vi v3)]) C dX12_claimedOf_18 (Nat.le_of_ble_eq_true rfl) rfl ?_
      refine at_iload_n (pc := 20) C 3 dX12_claimedOf_20 rfl rfl ?_
      refine at_aload_n (pc := 21) C 1 dX12_claimedOf_21 rfl rfl ?_
      refine at_iload (pc := 22) C 0 dX12_claimedOf_22 rfl ?_
      obtain ⟨q4, eq4, hF⟩ := bind_some' hF
      refine at_callV (pc := 24) (ci := 12) C (c_X12_of l g N (ja 1 (jm 3 v3)) σ q4 (ja_R 1 (jm 3 v3)) ok eq4) kv_X12_of w1565 kd94 rfl rfl rfl rfl (Nat.le_of_ble_eq_true rfl) ⟨rfl, rfl, (Nat.le_of_ble_eq_true rfl), (Nat.le_of_ble_eq_true rfl)⟩ dX12_claimedOf_24 (fun tq4 okq4 => ?_)
      refine at_iload_n (pc := 27) C 2 dX12_claimedOf_27 rfl rfl ?_
      refine at_icmp_eq (pc := 28) (tgt := 43) C tq4 h1 dX12_claimedOf_28 rfl (fun c5 => ?_) (fun c5 => ?_)
      · have hF := (if_pos c5).symm.trans hF
        refine at_sub (lv' := [(0, vr g 94), (1, vi v1), (3, vi v3), (4, vi (ja 1 (jm 3 v3)))]) [1, 2, 4, 0] rfl ?_
        exact J43 v3 (ja 1 (jm 3 v3)) v2 h3 (ja_R 1 (jm 3 v3)) h2 hF
      · have hF := (if_neg c5).symm.trans hF
        refine at_aload_n (pc := 31) C 1 dX12_claimedOf_31 rfl rfl ?_
        refine at_iload (pc := 32) C 0 dX12_claimedOf_32 rfl ?_
        refine at_iconst (pc := 34) C dX12_claimedOf_34 ?_
        refine at_iadd (pc := 35) C dX12_claimedOf_35 ?_
        obtain ⟨q6, eq6, hF⟩ := bind_some' hF
        refine at_callV (pc := 36) (ci := 12) C (c_X12_of l g N (ja (ja 1 (jm 3 v3)) 1) σ q6 (ja_R (ja 1 (jm 3 v3)) 1) ok eq6) kv_X12_of w1565 kd94 rfl rfl rfl rfl (Nat.le_of_ble_eq_true rfl) ⟨rfl, rfl, (Nat.le_of_ble_eq_true rfl), (Nat.le_of_ble_eq_true rfl)⟩ dX12_claimedOf_36 (fun tq6 okq6 => ?_)
        refine at_iload_n (pc := 39) C 2 dX12_claimedOf_39 rfl rfl ?_
        refine at_icmp_ne (pc := 40) (tgt := 54) C tq6 h1 dX12_claimedOf_40 rfl (fun c7 => ?_) (fun c7 => ?_)
        · have hF := (if_neg c7).symm.trans hF
          refine at_iconst (pc := 54) C dX12_claimedOf_54 ?_
          refine at_sub (lv' := [(0, vr g 94), (1, vi v1), (3, vi v3)]) [1, 2, 4] rfl ?_
          exact J55 v3 v2 0 h3 h2 (isB.r (Or.inl rfl)) hF
        · have hF := (if_pos c7).symm.trans hF
          refine at_sub (lv' := [(0, vr g 94), (1, vi v1), (3, vi v3), (4, vi (ja 1 (jm 3 v3)))]) [1, 2, 4, 0] rfl ?_
          exact J43 v3 (ja 1 (jm 3 v3)) v2 h3 (ja_R 1 (jm 3 v3)) h2 hF
  refine at_sub (lv' := [(0, vr g 94), (1, vi v1), (2, vi 0), (3, vi 0)]) [2, 3, 1, 0] rfl ?_
  exact L4 v1 0 0 h1 (isB.r (Or.inl rfl)) (isB.r (Or.inl rfl)) hF
abbrev rm_X12_claimedBy : Room := { frames := 1, cells := 0, slots := 0, locals := 21 }
def F_X12_claimedBy_J62 (N : Nat) (nx5 : (Int × Int) → Option (Int)) (v1 : Int) (v2 : Int) (v4 : Int) (t0 : Int) (t1 : Int) (σ : Sto) : Option (Int) :=
  nx5 ((ja t0 t1), (ja v4 1))
def F_X12_claimedBy_J61 (N : Nat) (nx5 : (Int × Int) → Option (Int)) (v1 : Int) (v2 : Int) (v4 : Int) (t0 : Int) (σ : Sto) : Option (Int) :=
  F_X12_claimedBy_J62 N nx5 v1 v2 v4 t0 0 σ
def F_X12_claimedBy_B5 (N : Nat) (nx5 : (Int × Int) → Option (Int)) (v1 : Int) (v2 : Int) (v3 : Int) (v4 : Int) (σ : Sto) : Option (Int) :=
  (F_X12_of N 0 σ).bind (fun q1 => if q1 ≤ v4 then (some v3) else ((F_X12_of N (ja 1 (jm 3 v4)) σ).bind (fun q3 => if q3 = v1 then ((F_X12_of N (ja (ja 1 (jm 3 v4)) 1) σ).bind (fun q5 => if q5 = v2 then ((F_X12_of N (ja (ja 1 (jm 3 v4)) 2) σ).bind (fun q7 => F_X12_claimedBy_J62 N nx5 v1 v2 v4 v3 q7 σ)) else (F_X12_claimedBy_J61 N nx5 v1 v2 v4 v3 σ))) else (F_X12_claimedBy_J61 N nx5 v1 v2 v4 v3 σ))))
def F_X12_claimedBy (N : Nat) (v1 : Int) (v2 : Int) (σ : Sto) : Option (Int) :=
  loopK (fun q nx5 => F_X12_claimedBy_B5 N  nx5 v1 v2 q.1 q.2 σ) N (0, 0)
set_option maxHeartbeats 4000000 in
set_option maxRecDepth 100000 in
theorem c_X12_claimedBy (l : Launch) (g : Geo) (N : Nat) (v1 : Int) (v2 : Int) (σ : Sto) (res : Int) (h1 : inR v1) (h2 : inR v2) (ok : OK σ) (hF : F_X12_claimedBy N v1 v2 σ = some res) : MtI l g yX12_claimedBy cX12_claimedBy 5 (some .int) rm_X12_claimedBy [vr g 94, vi v1, vi v2] σ res σ inR := by
  intro sz
  refine Met.ofAt (own := RX12) (QQ := fun z => QI g z res σ inR) (by decide +kernel) (Nat.le_of_ble_eq_true rfl) rfl ?_
  intro p e s m args below meth c C hr hlk
  show At p l e rm_X12_claimedBy s m args below meth c 0 0 g 5 (MQ below (QI g s.heap.size res σ inR) args s 0 0 (AA g s.heap.size)) 0 [(0, vr g 94), (1, vi v1), (2, vi v2)] [] σ
  unfold F_X12_claimedBy at hF
  refine at_iconst (pc := 0) C dX12_claimedBy_0 ?_
  refine at_istore_n (pc := 1) (lv' := [(3, vi 0), (0, vr g 94), (1, vi v1), (2, vi v2)]) C dX12_claimedBy_1 rfl (Nat.le_of_ble_eq_true rfl) rfl ?_
  refine at_iconst (pc := 2) C dX12_claimedBy_2 ?_
  refine at_istore (pc := 3) (lv' := [(4, vi 0), (3, vi 0), (0, vr g 94), (1, vi v1), (2, vi v2)]) C dX12_claimedBy_3 (Nat.le_of_ble_eq_true rfl) rfl ?_
  have L5 : ∀ (v1 : Int) (v2 : Int) (v3 : Int) (v4 : Int), inR v1 → inR v2 → inR v3 → inR v4 → loopK (fun q nx5 => F_X12_claimedBy_B5 N  nx5 v1 v2 q.1 q.2 σ) N (v3, v4) = some res → At p l e rm_X12_claimedBy s m args below meth c 0 0 g 5 (MQ below (QI g s.heap.size res σ inR) args s 0 0 (AA g s.heap.size)) 5 [(0, vr g 94), (1, vi v1), (2, vi v2), (3, vi v3), (4, vi v4)] [] σ := by
    intro v1 v2 v3 v4 h1 h2 h3 h4 hF
    refine loopK_ind (res := res) (P := fun (q : Int × Int) => inR q.1 → inR q.2 → At p l e rm_X12_claimedBy s m args below meth c 0 0 g 5 (MQ below (QI g s.heap.size res σ inR) args s 0 0 (AA g s.heap.size)) 5 [(0, vr g 94), (1, vi v1), (2, vi v2), (3, vi q.1), (4, vi q.2)] [] σ) ?_ N _ hF h3 h4
    intro nx5 q ih5 hF
    obtain ⟨v3, v4⟩ := q
    intro h3 h4
    have hF : F_X12_claimedBy_B5 N  nx5 v1 v2 v3 v4 σ = some res := hF
    unfold F_X12_claimedBy_B5 at hF
    refine at_iload (pc := 5) C 4 dX12_claimedBy_5 rfl ?_
    refine at_aload_n (pc := 7) C 0 dX12_claimedBy_7 rfl rfl ?_
    refine at_iconst (pc := 8) C dX12_claimedBy_8 ?_
    obtain ⟨q1, eq1, hF⟩ := bind_some' hF
    refine at_callV (pc := 9) (ci := 12) C (c_X12_of l g N 0 σ q1 (isB.r (Or.inl rfl)) ok eq1) kv_X12_of w1565 kd94 rfl rfl rfl rfl (Nat.le_of_ble_eq_true rfl) ⟨rfl, rfl, (Nat.le_of_ble_eq_true rfl), (Nat.le_of_ble_eq_true rfl)⟩ dX12_claimedBy_9 (fun tq1 okq1 => ?_)
    refine at_icmp_ge (pc := 12) (tgt := 70) C h4 tq1 dX12_claimedBy_12 rfl (fun c2 => ?_) (fun c2 => ?_)
    · have hF := (if_pos c2).symm.trans hF
      refine at_iload_n (pc := 70) C 3 dX12_claimedBy_70 rfl rfl ?_
      obtain rfl := Option.some.inj hF
      exact at_iret (pc := 71) C hr hlk h3 ok dX12_claimedBy_71
    · have hF := (if_neg c2).symm.trans hF
      have J62 : ∀ (v4 : Int) (t0 : Int) (t1 : Int), inR v4 → inR t0 → inR t1 → F_X12_claimedBy_J62 N nx5 v1 v2 v4 t0 t1 σ = some res → At p l e rm_X12_claimedBy s m args below meth c 0 0 g 5 (MQ below (QI g s.heap.size res σ inR) args s 0 0 (AA g s.heap.size)) 62 [(0, vr g 94), (1, vi v1), (2, vi v2), (4, vi v4)] [vi t1, vi t0] σ := by
        intro v4 t0 t1 h4 ht0 ht1 hF
        unfold F_X12_claimedBy_J62 at hF
        refine at_iadd (pc := 62) C dX12_claimedBy_62 ?_
        refine at_istore_n (pc := 63) (lv' := [(3, vi (ja t0 t1)), (0, vr g 94), (1, vi v1), (2, vi v2), (4, vi v4)]) C dX12_claimedBy_63 rfl (Nat.le_of_ble_eq_true rfl) rfl ?_
        refine at_iinc (pc := 64) (lv' := [(4, vi (ja v4 1)), (3, vi (ja t0 t1)), (0, vr g 94), (1, vi v1), (2, vi v2)]) C 4 dX12_claimedBy_64 rfl (Nat.le_of_ble_eq_true rfl) rfl ?_
        refine at_goto (pc := 67) (tgt := 5) C dX12_claimedBy_67 rfl ?_
        refine at_sub (lv' := [(0, vr g 94), (1, vi v1), (2, vi v2), (3, vi (ja t0 t1)), (4, vi (ja v4 1))]) [2, 3, 4, 1, 0] rfl ?_
        exact ih5 _ hF (ja_R t0 t1) (ja_R v4 1)
      have J61 : ∀ (v4 : Int) (t0 : Int), inR v4 → inR t0 → F_X12_claimedBy_J61 N nx5 v1 v2 v4 t0 σ = some res → At p l e rm_X12_claimedBy s m args below meth c 0 0 g 5 (MQ below (QI g s.heap.size res σ inR) args s 0 0 (AA g s.heap.size)) 61 [(0, vr g 94), (1, vi v1), (2, vi v2), (4, vi v4)] [vi t0] σ := by
        intro v4 t0 h4 ht0 hF
        unfold F_X12_claimedBy_J61 at hF
        refine at_iconst (pc := 61) C dX12_claimedBy_61 ?_
        exact J62 v4 t0 0 h4 ht0 (isB.r (Or.inl rfl)) hF
      refine at_iload_n (pc := 15) C 3 dX12_claimedBy_15 rfl rfl ?_
      refine at_aload_n (pc := 16) C 0 dX12_claimedBy_16 rfl rfl ?_
      refine at_iconst (pc := 17) C dX12_claimedBy_17 ?_
      refine at_iconst (pc := 18) C dX12_claimedBy_18 ?_
      refine at_iload (pc := 19) C 4 dX12_claimedBy_19 rfl ?_
      refine at_imul (pc := 21) C dX12_claimedBy_21 ?_
      refine at_iadd (pc := 22) C dX12_claimedBy_22 ?_
      obtain ⟨q3, eq3, hF⟩ := bind_some' hF
      refine at_callV (pc := 23) (ci := 12) C (c_X12_of l g N (ja 1 (jm 3 v4)) σ q3 (ja_R 1 (jm 3 v4)) ok eq3) kv_X12_of w1565 kd94 rfl rfl rfl rfl (Nat.le_of_ble_eq_true rfl) ⟨rfl, rfl, (Nat.le_of_ble_eq_true rfl), (Nat.le_of_ble_eq_true rfl)⟩ dX12_claimedBy_23 (fun tq3 okq3 => ?_)
      refine at_iload_n (pc := 26) C 1 dX12_claimedBy_26 rfl rfl ?_
      refine at_icmp_ne (pc := 27) (tgt := 61) C tq3 h1 dX12_claimedBy_27 rfl (fun c4 => ?_) (fun c4 => ?_)
      · have hF := (if_neg c4).symm.trans hF
        refine at_sub (lv' := [(0, vr g 94), (1, vi v1), (2, vi v2), (4, vi v4)]) [0, 1, 2, 4] rfl ?_
        exact J61 v4 v3 h4 h3 hF
      · have hF := (if_pos c4).symm.trans hF
        refine at_aload_n (pc := 30) C 0 dX12_claimedBy_30 rfl rfl ?_
        refine at_iconst (pc := 31) C dX12_claimedBy_31 ?_
        refine at_iconst (pc := 32) C dX12_claimedBy_32 ?_
        refine at_iload (pc := 33) C 4 dX12_claimedBy_33 rfl ?_
        refine at_imul (pc := 35) C dX12_claimedBy_35 ?_
        refine at_iadd (pc := 36) C dX12_claimedBy_36 ?_
        refine at_iconst (pc := 37) C dX12_claimedBy_37 ?_
        refine at_iadd (pc := 38) C dX12_claimedBy_38 ?_
        obtain ⟨q5, eq5, hF⟩ := bind_some' hF
        refine at_callV (pc := 39) (ci := 12) C (c_X12_of l g N (ja (ja 1 (jm 3 v4)) 1) σ q5 (ja_R (ja 1 (jm 3 v4)) 1) ok eq5) kv_X12_of w1565 kd94 rfl rfl rfl rfl (Nat.le_of_ble_eq_true rfl) ⟨rfl, rfl, (Nat.le_of_ble_eq_true rfl), (Nat.le_of_ble_eq_true rfl)⟩ dX12_claimedBy_39 (fun tq5 okq5 => ?_)
        refine at_iload_n (pc := 42) C 2 dX12_claimedBy_42 rfl rfl ?_
        refine at_icmp_ne (pc := 43) (tgt := 61) C tq5 h2 dX12_claimedBy_43 rfl (fun c6 => ?_) (fun c6 => ?_)
        · have hF := (if_neg c6).symm.trans hF
          refine at_sub (lv' := [(0, vr g 94), (1, vi v1), (2, vi v2), (4, vi v4)]) [0, 1, 2, 4] rfl ?_
          exact J61 v4 v3 h4 h3 hF
        · have hF := (if_pos c6).symm.trans hF
          refine at_aload_n (pc := 46) C 0 dX12_claimedBy_46 rfl rfl ?_
          refine at_iconst (pc := 47) C dX12_claimedBy_47 ?_
          refine at_iconst (pc := 48) C dX12_claimedBy_48 ?_
          refine at_iload (pc := 49) C 4 dX12_claimedBy_49 rfl ?_
          refine at_imul (pc := 51) C dX12_claimedBy_51 ?_
          refine at_iadd (pc := 52) C dX12_claimedBy_52 ?_
          refine at_iconst (pc := 53) C dX12_claimedBy_53 ?_
          refine at_iadd (pc := 54) C dX12_claimedBy_54 ?_
          obtain ⟨q7, eq7, hF⟩ := bind_some' hF
          refine at_callV (pc := 55) (ci := 12) C (c_X12_of l g N (ja (ja 1 (jm 3 v4)) 2) σ q7 (ja_R (ja 1 (jm 3 v4)) 2) ok eq7) kv_X12_of w1565 kd94 rfl rfl rfl rfl (Nat.le_of_ble_eq_true rfl) ⟨rfl, rfl, (Nat.le_of_ble_eq_true rfl), (Nat.le_of_ble_eq_true rfl)⟩ dX12_claimedBy_55 (fun tq7 okq7 => ?_)
          refine at_goto (pc := 58) (tgt := 62) C dX12_claimedBy_58 rfl ?_
          refine at_sub (lv' := [(0, vr g 94), (1, vi v1), (2, vi v2), (4, vi v4)]) [0, 1, 2, 4] rfl ?_
          exact J62 v4 v3 q7 h4 h3 tq7 hF
  refine at_sub (lv' := [(0, vr g 94), (1, vi v1), (2, vi v2), (3, vi 0), (4, vi 0)]) [2, 3, 4, 1, 0] rfl ?_
  exact L5 v1 v2 0 0 h1 h2 (isB.r (Or.inl rfl)) (isB.r (Or.inl rfl)) hF
abbrev rm_X12_openOf : Room := { frames := 2, cells := 0, slots := 0, locals := 45 }
def F_X12_openOf_J22 (N : Nat)  (v1 : Int) (t0 : Int) (σ : Sto) : Option (Int) :=
  (F_X12_claimedOf N v1 σ).bind (fun q1 => some (js t0 q1))
def F_X12_openOf (N : Nat) (v1 : Int) (σ : Sto) : Option (Int) :=
  (F_X12_result N v1 σ).bind (fun q2 => if 0 ≤ q2 then ((F_X12_result N v1 σ).bind (fun q4 => F_X12_openOf_J22 N  v1 q4 σ)) else ((F_X12_result N v1 σ).bind (fun q5 => F_X12_openOf_J22 N  v1 (jneg q5) σ)))
set_option maxHeartbeats 4000000 in
set_option maxRecDepth 100000 in
theorem c_X12_openOf (l : Launch) (g : Geo) (N : Nat) (v1 : Int) (σ : Sto) (res : Int) (h1 : inR v1) (ok : OK σ) (hF : F_X12_openOf N v1 σ = some res) : MtI l g yX12_openOf cX12_openOf 2 (some .int) rm_X12_openOf [vr g 94, vi v1] σ res σ inR := by
  intro sz
  refine Met.ofAt (own := RX12) (QQ := fun z => QI g z res σ inR) (by decide +kernel) (Nat.le_of_ble_eq_true rfl) rfl ?_
  intro p e s m args below meth c C hr hlk
  show At p l e rm_X12_openOf s m args below meth c 0 0 g 2 (MQ below (QI g s.heap.size res σ inR) args s 0 0 (AA g s.heap.size)) 0 [(0, vr g 94), (1, vi v1)] [] σ
  unfold F_X12_openOf at hF
  have J22 : ∀ (v1 : Int) (t0 : Int), inR v1 → inR t0 → F_X12_openOf_J22 N  v1 t0 σ = some res → At p l e rm_X12_openOf s m args below meth c 0 0 g 2 (MQ below (QI g s.heap.size res σ inR) args s 0 0 (AA g s.heap.size)) 22 [(0, vr g 94), (1, vi v1)] [vi t0] σ := by
    intro v1 t0 h1 ht0 hF
    unfold F_X12_openOf_J22 at hF
    refine at_aload_n (pc := 22) C 0 dX12_openOf_22 rfl rfl ?_
    refine at_iload_n (pc := 23) C 1 dX12_openOf_23 rfl rfl ?_
    obtain ⟨q1, eq1, hF⟩ := bind_some' hF
    refine at_callV (pc := 24) (ci := 12) C (c_X12_claimedOf l g N v1 σ q1 h1 ok eq1) kv_X12_claimedOf w1650 kd94 rfl rfl rfl rfl (Nat.le_of_ble_eq_true rfl) ⟨rfl, rfl, (Nat.le_of_ble_eq_true rfl), (Nat.le_of_ble_eq_true rfl)⟩ dX12_openOf_24 (fun tq1 okq1 => ?_)
    refine at_isub (pc := 27) C dX12_openOf_27 ?_
    obtain rfl := Option.some.inj hF
    exact at_iret (pc := 28) C hr hlk (js_R t0 q1) ok dX12_openOf_28
  refine at_aload_n (pc := 0) C 0 dX12_openOf_0 rfl rfl ?_
  refine at_iload_n (pc := 1) C 1 dX12_openOf_1 rfl rfl ?_
  obtain ⟨q2, eq2, hF⟩ := bind_some' hF
  refine at_callV (pc := 2) (ci := 12) C (c_X12_result l g N v1 σ q2 h1 ok eq2) kv_X12_result w1585 kd94 rfl rfl rfl rfl (Nat.le_of_ble_eq_true rfl) ⟨rfl, rfl, (Nat.le_of_ble_eq_true rfl), (Nat.le_of_ble_eq_true rfl)⟩ dX12_openOf_2 (fun tq2 okq2 => ?_)
  refine at_if_ge (pc := 5) (tgt := 17) C tq2 dX12_openOf_5 rfl (fun c3 => ?_) (fun c3 => ?_)
  · have hF := (if_pos c3).symm.trans hF
    refine at_aload_n (pc := 17) C 0 dX12_openOf_17 rfl rfl ?_
    refine at_iload_n (pc := 18) C 1 dX12_openOf_18 rfl rfl ?_
    obtain ⟨q4, eq4, hF⟩ := bind_some' hF
    refine at_callV (pc := 19) (ci := 12) C (c_X12_result l g N v1 σ q4 h1 ok eq4) kv_X12_result w1585 kd94 rfl rfl rfl rfl (Nat.le_of_ble_eq_true rfl) ⟨rfl, rfl, (Nat.le_of_ble_eq_true rfl), (Nat.le_of_ble_eq_true rfl)⟩ dX12_openOf_19 (fun tq4 okq4 => ?_)
    exact J22 v1 q4 h1 tq4 hF
  · have hF := (if_neg c3).symm.trans hF
    refine at_aload_n (pc := 8) C 0 dX12_openOf_8 rfl rfl ?_
    refine at_iload_n (pc := 9) C 1 dX12_openOf_9 rfl rfl ?_
    obtain ⟨q5, eq5, hF⟩ := bind_some' hF
    refine at_callV (pc := 10) (ci := 12) C (c_X12_result l g N v1 σ q5 h1 ok eq5) kv_X12_result w1585 kd94 rfl rfl rfl rfl (Nat.le_of_ble_eq_true rfl) ⟨rfl, rfl, (Nat.le_of_ble_eq_true rfl), (Nat.le_of_ble_eq_true rfl)⟩ dX12_openOf_10 (fun tq5 okq5 => ?_)
    refine at_ineg (pc := 13) C dX12_openOf_13 ?_
    refine at_goto (pc := 14) (tgt := 22) C dX12_openOf_14 rfl ?_
    exact J22 v1 (jneg q5) h1 (jneg_R q5) hF
abbrev rm_X12_laysAll : Room := { frames := 4, cells := 0, slots := 0, locals := 97 }
def F_X12_laysAll_J168 (N : Nat) (nx7 : (Int × Sto) → Option (Sto)) (v2 : Int) (v3 : Int) (σ : Sto) : Option (Sto) :=
  nx7 ((ja v3 1), σ)
def F_X12_laysAll_J161 (N : Nat) (nx7 : (Int × Sto) → Option (Sto)) (nx86 : (Int × Sto) → Option (Sto)) (v2 : Int) (v3 : Int) (v4 : Int) (v5 : Int) (t1 : Int) (t2 : Int) (σ : Sto) : Option (Sto) :=
  inb t1 144 (nx86 ((ja v5 1), (upI σ 106 t1 t2)))
def F_X12_laysAll_J160 (N : Nat) (nx7 : (Int × Sto) → Option (Sto)) (nx86 : (Int × Sto) → Option (Sto)) (v2 : Int) (v3 : Int) (v4 : Int) (v5 : Int) (t1 : Int) (σ : Sto) : Option (Sto) :=
  F_X12_laysAll_J161 N nx7 nx86 v2 v3 v4 v5 t1 0 σ
def F_X12_laysAll_J156 (N : Nat) (nx7 : (Int × Sto) → Option (Sto)) (nx86 : (Int × Sto) → Option (Sto)) (v2 : Int) (v3 : Int) (v4 : Int) (v5 : Int) (t1 : Int) (t2 : Int) (t3 : Int) (σ : Sto) : Option (Sto) :=
  F_X12_laysAll_J161 N nx7 nx86 v2 v3 v4 v5 t1 (js t2 t3) σ
def F_X12_laysAll_B86 (N : Nat) (nx7 : (Int × Sto) → Option (Sto)) (nx86 : (Int × Sto) → Option (Sto)) (v2 : Int) (v3 : Int) (v4 : Int) (v5 : Int) (σ : Sto) : Option (Sto) :=
  if (σ.1 94 14) ≤ v5 then (F_X12_laysAll_J168 N nx7 v2 v3 σ) else (if v4 = 0 then (F_X12_laysAll_J160 N nx7 nx86 v2 v3 v4 v5 (ja (jm 12 v3) v5) σ) else ((F_X12_memberOf N v5 σ).bind (fun q7 => if q7 = (σ.1 94 38) then (F_X12_laysAll_J160 N nx7 nx86 v2 v3 v4 v5 (ja (jm 12 v3) v5) σ) else ((F_X12_isLink N v3 v5 σ).bind (fun q9 => if q9 = 0 then (F_X12_laysAll_J160 N nx7 nx86 v2 v3 v4 v5 (ja (jm 12 v3) v5) σ) else ((F_X12_boundOf N v3 v5 σ).bind (fun q11 => if v2 = 0 then (F_X12_laysAll_J156 N nx7 nx86 v2 v3 v4 v5 (ja (jm 12 v3) v5) q11 0 σ) else ((F_X12_claimedBy N v3 v5 σ).bind (fun q13 => F_X12_laysAll_J156 N nx7 nx86 v2 v3 v4 v5 (ja (jm 12 v3) v5) q11 q13 σ)))))))))
def F_X12_laysAll_J82 (N : Nat) (nx7 : (Int × Sto) → Option (Sto)) (v2 : Int) (v3 : Int) (v4 : Int) (t1 : Int) (t2 : Int) (σ : Sto) : Option (Sto) :=
  inb t1 12 (loopK (fun q nx86 => F_X12_laysAll_B86 N nx7 nx86 v2 v3 v4 q.1 q.2) N (0, (upI σ 105 t1 t2)))
def F_X12_laysAll_J32 (N : Nat) (nx7 : (Int × Sto) → Option (Sto)) (v2 : Int) (v3 : Int) (t0 : Int) (σ : Sto) : Option (Sto) :=
  if t0 = 0 then (F_X12_laysAll_J82 N nx7 v2 v3 t0 v3 0 σ) else (if v2 = 0 then ((F_X12_result N v3 σ).bind (fun q16 => if 0 ≤ q16 then ((F_X12_result N v3 σ).bind (fun q18 => F_X12_laysAll_J82 N nx7 v2 v3 t0 v3 q18 σ)) else ((F_X12_result N v3 σ).bind (fun q19 => F_X12_laysAll_J82 N nx7 v2 v3 t0 v3 (jneg q19) σ)))) else ((F_X12_openOf N v3 σ).bind (fun q20 => F_X12_laysAll_J82 N nx7 v2 v3 t0 v3 q20 σ)))
def F_X12_laysAll_B7 (N : Nat) (nx7 : (Int × Sto) → Option (Sto)) (v2 : Int) (v3 : Int) (σ : Sto) : Option (Sto) :=
  if (σ.1 94 14) ≤ v3 then (some σ) else ((F_X12_memberOf N v3 σ).bind (fun q21 => if q21 = (σ.1 94 38) then (F_X12_laysAll_J32 N nx7 v2 v3 0 σ) else (F_X12_laysAll_J32 N nx7 v2 v3 1 σ)))
def F_X12_laysAll (N : Nat) (v1 : Int) (v2 : Int) (σ : Sto) : Option (Sto) :=
  (F_X12_laysStretches N v1 σ).bind (fun q1 => loopK (fun q nx7 => F_X12_laysAll_B7 N  nx7 v2 q.1 q.2) N (0, q1))
set_option maxHeartbeats 4000000 in
set_option maxRecDepth 100000 in
theorem c_X12_laysAll (l : Launch) (g : Geo) (N : Nat) (v1 : Int) (v2 : Int) (σ : Sto) (res : Sto) (h1 : inR v1) (h2 : isB v2) (ok : OK σ) (hF : F_X12_laysAll N v1 v2 σ = some res) : MtV l g yX12_laysAll cX12_laysAll 6 none rm_X12_laysAll [vr g 94, vi v1, vi v2] σ res := by
  intro sz
  refine Met.ofAt (own := RX12) (QQ := fun z => QV g z res) (by decide +kernel) (Nat.le_of_ble_eq_true rfl) rfl ?_
  intro p e s m args below meth c C hr hlk
  show At p l e rm_X12_laysAll s m args below meth c 0 0 g 6 (MQ below (QV g s.heap.size res) args s 0 0 (AA g s.heap.size)) 0 [(0, vr g 94), (1, vi v1), (2, vi v2)] [] σ
  unfold F_X12_laysAll at hF
  refine at_aload_n (pc := 0) C 0 dX12_laysAll_0 rfl rfl ?_
  refine at_iload_n (pc := 1) C 1 dX12_laysAll_1 rfl rfl ?_
  obtain ⟨q1, eq1, hF⟩ := bind_some' hF
  refine at_callVv (pc := 2) (ci := 12) C (c_X12_laysStretches l g N v1 σ q1 h1 ok eq1) kv_X12_laysStretches w1605 kd94 rfl rfl rfl rfl (Nat.le_of_ble_eq_true rfl) ⟨rfl, rfl, (Nat.le_of_ble_eq_true rfl), (Nat.le_of_ble_eq_true rfl)⟩ dX12_laysAll_2 (fun okq1 => ?_)
  refine at_iconst (pc := 5) C dX12_laysAll_5 ?_
  refine at_istore_n (pc := 6) (lv' := [(3, vi 0), (0, vr g 94), (1, vi v1), (2, vi v2)]) C dX12_laysAll_6 rfl (Nat.le_of_ble_eq_true rfl) rfl ?_
  have L7 : ∀ (v2 : Int) (v3 : Int) (σ : Sto), isB v2 → inR v3 → OK σ → loopK (fun q nx7 => F_X12_laysAll_B7 N  nx7 v2 q.1 q.2) N (v3, σ) = some res → At p l e rm_X12_laysAll s m args below meth c 0 0 g 6 (MQ below (QV g s.heap.size res) args s 0 0 (AA g s.heap.size)) 7 [(0, vr g 94), (2, vi v2), (3, vi v3)] [] σ := by
    intro v2 v3 σ h2 h3 ok hF
    refine loopK_ind (res := res) (P := fun (q : Int × Sto) => inR q.1 → OK q.2 → At p l e rm_X12_laysAll s m args below meth c 0 0 g 6 (MQ below (QV g s.heap.size res) args s 0 0 (AA g s.heap.size)) 7 [(0, vr g 94), (2, vi v2), (3, vi q.1)] [] q.2) ?_ N _ hF h3 ok
    intro nx7 q ih7 hF
    obtain ⟨v3, σ⟩ := q
    intro h3 ok
    have hF : F_X12_laysAll_B7 N  nx7 v2 v3 σ = some res := hF
    unfold F_X12_laysAll_B7 at hF
    refine at_iload_n (pc := 7) C 2 dX12_laysAll_7 rfl rfl ?_
    refine at_aload_n (pc := 8) C 0 dX12_laysAll_8 rfl rfl ?_
    refine at_geti (pc := 9) (jz := 14) C fw_12_135 kd94 rfl (Nat.le_of_ble_eq_true rfl) rfl rfl dX12_laysAll_9 ?_
    refine at_icmp_ge (pc := 12) (tgt := 174) C h3 (ok 94 14) dX12_laysAll_12 rfl (fun c2 => ?_) (fun c2 => ?_)
    · have hF := (if_pos c2).symm.trans hF
      obtain rfl := Option.some.inj hF
      exact at_vret (pc := 174) C hr hlk ok dX12_laysAll_174
    · have hF := (if_neg c2).symm.trans hF
      have J32 : ∀ (v3 : Int) (t0 : Int) (σ : Sto), inR v3 → isB t0 → OK σ → F_X12_laysAll_J32 N nx7 v2 v3 t0 σ = some res → At p l e rm_X12_laysAll s m args below meth c 0 0 g 6 (MQ below (QV g s.heap.size res) args s 0 0 (AA g s.heap.size)) 32 [(0, vr g 94), (2, vi v2), (3, vi v3)] [vi t0] σ := by
        intro v3 t0 σ h3 ht0 ok hF
        unfold F_X12_laysAll_J32 at hF
        have J82 : ∀ (v3 : Int) (v4 : Int) (t1 : Int) (t2 : Int) (σ : Sto), inR v3 → isB v4 → inR t1 → inR t2 → OK σ → F_X12_laysAll_J82 N nx7 v2 v3 v4 t1 t2 σ = some res → At p l e rm_X12_laysAll s m args below meth c 0 0 g 6 (MQ below (QV g s.heap.size res) args s 0 0 (AA g s.heap.size)) 82 [(0, vr g 94), (2, vi v2), (3, vi v3), (4, vi v4)] [vi t2, vi t1, vr g 105] σ := by
          intro v3 v4 t1 t2 σ h3 h4 ht1 ht2 ok hF
          unfold F_X12_laysAll_J82 at hF
          obtain ⟨b3, hF⟩ := inb_some hF
          refine at_iastore (pc := 82) C kd105 b3 dX12_laysAll_82 ?_
          refine at_iconst (pc := 83) C dX12_laysAll_83 ?_
          refine at_istore (pc := 84) (lv' := [(5, vi 0), (0, vr g 94), (2, vi v2), (3, vi v3), (4, vi v4)]) C dX12_laysAll_84 (Nat.le_of_ble_eq_true rfl) rfl ?_
          have L86 : ∀ (v3 : Int) (v4 : Int) (v5 : Int) (σ : Sto), inR v3 → isB v4 → inR v5 → OK σ → loopK (fun q nx86 => F_X12_laysAll_B86 N nx7 nx86 v2 v3 v4 q.1 q.2) N (v5, σ) = some res → At p l e rm_X12_laysAll s m args below meth c 0 0 g 6 (MQ below (QV g s.heap.size res) args s 0 0 (AA g s.heap.size)) 86 [(0, vr g 94), (2, vi v2), (3, vi v3), (4, vi v4), (5, vi v5)] [] σ := by
            intro v3 v4 v5 σ h3 h4 h5 ok hF
            refine loopK_ind (res := res) (P := fun (q : Int × Sto) => inR q.1 → OK q.2 → At p l e rm_X12_laysAll s m args below meth c 0 0 g 6 (MQ below (QV g s.heap.size res) args s 0 0 (AA g s.heap.size)) 86 [(0, vr g 94), (2, vi v2), (3, vi v3), (4, vi v4), (5, vi q.1)] [] q.2) ?_ N _ hF h5 ok
            intro nx86 q ih86 hF
            obtain ⟨v5, σ⟩ := q
            intro h5 ok
            have hF : F_X12_laysAll_B86 N nx7 nx86 v2 v3 v4 v5 σ = some res := hF
            unfold F_X12_laysAll_B86 at hF
            have J168 : ∀ (v3 : Int) (σ : Sto), inR v3 → OK σ → F_X12_laysAll_J168 N nx7 v2 v3 σ = some res → At p l e rm_X12_laysAll s m args below meth c 0 0 g 6 (MQ below (QV g s.heap.size res) args s 0 0 (AA g s.heap.size)) 168 [(0, vr g 94), (2, vi v2), (3, vi v3)] [] σ := by
              intro v3 σ h3 ok hF
              unfold F_X12_laysAll_J168 at hF
              refine at_iinc (pc := 168) (lv' := [(3, vi (ja v3 1)), (0, vr g 94), (2, vi v2)]) C 2 dX12_laysAll_168 rfl (Nat.le_of_ble_eq_true rfl) rfl ?_
              refine at_goto (pc := 171) (tgt := 7) C dX12_laysAll_171 rfl ?_
              refine at_sub (lv' := [(0, vr g 94), (2, vi v2), (3, vi (ja v3 1))]) [1, 2, 0] rfl ?_
              exact ih7 _ hF (ja_R v3 1) ok
            refine at_iload (pc := 86) C 4 dX12_laysAll_86 rfl ?_
            refine at_aload_n (pc := 88) C 0 dX12_laysAll_88 rfl rfl ?_
            refine at_geti (pc := 89) (jz := 14) C fw_12_135 kd94 rfl (Nat.le_of_ble_eq_true rfl) rfl rfl dX12_laysAll_89 ?_
            refine at_icmp_ge (pc := 92) (tgt := 168) C h5 (ok 94 14) dX12_laysAll_92 rfl (fun c4 => ?_) (fun c4 => ?_)
            · have hF := (if_pos c4).symm.trans hF
              refine at_sub (lv' := [(0, vr g 94), (2, vi v2), (3, vi v3)]) [0, 1, 2] rfl ?_
              exact J168 v3 σ h3 ok hF
            · have hF := (if_neg c4).symm.trans hF
              have J161 : ∀ (v5 : Int) (t1 : Int) (t2 : Int) (σ : Sto), inR v5 → inR t1 → inR t2 → OK σ → F_X12_laysAll_J161 N nx7 nx86 v2 v3 v4 v5 t1 t2 σ = some res → At p l e rm_X12_laysAll s m args below meth c 0 0 g 6 (MQ below (QV g s.heap.size res) args s 0 0 (AA g s.heap.size)) 161 [(0, vr g 94), (2, vi v2), (3, vi v3), (4, vi v4), (5, vi v5)] [vi t2, vi t1, vr g 106] σ := by
                intro v5 t1 t2 σ h5 ht1 ht2 ok hF
                unfold F_X12_laysAll_J161 at hF
                obtain ⟨b5, hF⟩ := inb_some hF
                refine at_iastore (pc := 161) C kd106 b5 dX12_laysAll_161 ?_
                refine at_iinc (pc := 162) (lv' := [(5, vi (ja v5 1)), (0, vr g 94), (2, vi v2), (3, vi v3), (4, vi v4)]) C 4 dX12_laysAll_162 rfl (Nat.le_of_ble_eq_true rfl) rfl ?_
                refine at_goto (pc := 165) (tgt := 86) C dX12_laysAll_165 rfl ?_
                refine at_sub (lv' := [(0, vr g 94), (2, vi v2), (3, vi v3), (4, vi v4), (5, vi (ja v5 1))]) [1, 2, 3, 4, 0] rfl ?_
                exact ih86 _ hF (ja_R v5 1) (OK_up (k := 106) (j := t1) ok ht2)
              have J160 : ∀ (v5 : Int) (t1 : Int) (σ : Sto), inR v5 → inR t1 → OK σ → F_X12_laysAll_J160 N nx7 nx86 v2 v3 v4 v5 t1 σ = some res → At p l e rm_X12_laysAll s m args below meth c 0 0 g 6 (MQ below (QV g s.heap.size res) args s 0 0 (AA g s.heap.size)) 160 [(0, vr g 94), (2, vi v2), (3, vi v3), (4, vi v4), (5, vi v5)] [vi t1, vr g 106] σ := by
                intro v5 t1 σ h5 ht1 ok hF
                unfold F_X12_laysAll_J160 at hF
                refine at_iconst (pc := 160) C dX12_laysAll_160 ?_
                exact J161 v5 t1 0 σ h5 ht1 (isB.r (Or.inl rfl)) ok hF
              refine at_aload_n (pc := 95) C 0 dX12_laysAll_95 rfl rfl ?_
              refine at_getr (pc := 96) (k' := 106) C 12 fw_12_51 kd94 rfl (Nat.le_of_ble_eq_true rfl) rfl rfl dX12_laysAll_96 ?_
              refine at_bipush (pc := 99) C dX12_laysAll_99 (by decide) ?_
              refine at_iload_n (pc := 101) C 2 dX12_laysAll_101 rfl rfl ?_
              refine at_imul (pc := 102) C dX12_laysAll_102 ?_
              refine at_iload (pc := 103) C 4 dX12_laysAll_103 rfl ?_
              refine at_iadd (pc := 105) C dX12_laysAll_105 ?_
              refine at_iload (pc := 106) C 3 dX12_laysAll_106 rfl ?_
              refine at_if_eq (pc := 108) (tgt := 160) C (isB.r h4) dX12_laysAll_108 rfl (fun c6 => ?_) (fun c6 => ?_)
              · have hF := (if_pos c6).symm.trans hF
                exact J160 v5 (ja (jm 12 v3) v5) σ h5 (ja_R (jm 12 v3) v5) ok hF
              · have hF := (if_neg c6).symm.trans hF
                refine at_aload_n (pc := 111) C 0 dX12_laysAll_111 rfl rfl ?_
                refine at_iload (pc := 112) C 4 dX12_laysAll_112 rfl ?_
                obtain ⟨q7, eq7, hF⟩ := bind_some' hF
                refine at_callV (pc := 114) (ci := 12) C (c_X12_memberOf l g N v5 σ q7 h5 ok eq7) kv_X12_memberOf w1593 kd94 rfl rfl rfl rfl (Nat.le_of_ble_eq_true rfl) ⟨rfl, rfl, (Nat.le_of_ble_eq_true rfl), (Nat.le_of_ble_eq_true rfl)⟩ dX12_laysAll_114 (fun tq7 okq7 => ?_)
                refine at_aload_n (pc := 117) C 0 dX12_laysAll_117 rfl rfl ?_
                refine at_geti (pc := 118) (jz := 38) C fw_12_57 kd94 rfl (Nat.le_of_ble_eq_true rfl) rfl rfl dX12_laysAll_118 ?_
                refine at_icmp_eq (pc := 121) (tgt := 160) C tq7 (ok 94 38) dX12_laysAll_121 rfl (fun c8 => ?_) (fun c8 => ?_)
                · have hF := (if_pos c8).symm.trans hF
                  exact J160 v5 (ja (jm 12 v3) v5) σ h5 (ja_R (jm 12 v3) v5) ok hF
                · have hF := (if_neg c8).symm.trans hF
                  refine at_aload_n (pc := 124) C 0 dX12_laysAll_124 rfl rfl ?_
                  refine at_iload_n (pc := 125) C 2 dX12_laysAll_125 rfl rfl ?_
                  refine at_iload (pc := 126) C 4 dX12_laysAll_126 rfl ?_
                  obtain ⟨q9, eq9, hF⟩ := bind_some' hF
                  refine at_callV (pc := 128) (ci := 12) C (c_X12_isLink l g N v3 v5 σ q9 h3 h5 ok eq9) kv_X12_isLink w1577 kd94 rfl rfl rfl rfl (Nat.le_of_ble_eq_true rfl) ⟨rfl, rfl, (Nat.le_of_ble_eq_true rfl), (Nat.le_of_ble_eq_true rfl)⟩ dX12_laysAll_128 (fun tq9 okq9 => ?_)
                  refine at_if_eq (pc := 131) (tgt := 160) C (isB.r tq9) dX12_laysAll_131 rfl (fun c10 => ?_) (fun c10 => ?_)
                  · have hF := (if_pos c10).symm.trans hF
                    exact J160 v5 (ja (jm 12 v3) v5) σ h5 (ja_R (jm 12 v3) v5) ok hF
                  · have hF := (if_neg c10).symm.trans hF
                    have J156 : ∀ (v5 : Int) (t1 : Int) (t2 : Int) (t3 : Int) (σ : Sto), inR v5 → inR t1 → inR t2 → inR t3 → OK σ → F_X12_laysAll_J156 N nx7 nx86 v2 v3 v4 v5 t1 t2 t3 σ = some res → At p l e rm_X12_laysAll s m args below meth c 0 0 g 6 (MQ below (QV g s.heap.size res) args s 0 0 (AA g s.heap.size)) 156 [(0, vr g 94), (2, vi v2), (3, vi v3), (4, vi v4), (5, vi v5)] [vi t3, vi t2, vi t1, vr g 106] σ := by
                      intro v5 t1 t2 t3 σ h5 ht1 ht2 ht3 ok hF
                      unfold F_X12_laysAll_J156 at hF
                      refine at_isub (pc := 156) C dX12_laysAll_156 ?_
                      refine at_goto (pc := 157) (tgt := 161) C dX12_laysAll_157 rfl ?_
                      exact J161 v5 t1 (js t2 t3) σ h5 ht1 (js_R t2 t3) ok hF
                    refine at_aload_n (pc := 134) C 0 dX12_laysAll_134 rfl rfl ?_
                    refine at_iload_n (pc := 135) C 2 dX12_laysAll_135 rfl rfl ?_
                    refine at_iload (pc := 136) C 4 dX12_laysAll_136 rfl ?_
                    obtain ⟨q11, eq11, hF⟩ := bind_some' hF
                    refine at_callV (pc := 138) (ci := 12) C (c_X12_boundOf l g N v3 v5 σ q11 h3 h5 ok eq11) kv_X12_boundOf w1630 kd94 rfl rfl rfl rfl (Nat.le_of_ble_eq_true rfl) ⟨rfl, rfl, (Nat.le_of_ble_eq_true rfl), (Nat.le_of_ble_eq_true rfl)⟩ dX12_laysAll_138 (fun tq11 okq11 => ?_)
                    refine at_iload_n (pc := 141) C 1 dX12_laysAll_141 rfl rfl ?_
                    refine at_if_eq (pc := 142) (tgt := 155) C (isB.r h2) dX12_laysAll_142 rfl (fun c12 => ?_) (fun c12 => ?_)
                    · have hF := (if_pos c12).symm.trans hF
                      refine at_iconst (pc := 155) C dX12_laysAll_155 ?_
                      exact J156 v5 (ja (jm 12 v3) v5) q11 0 σ h5 (ja_R (jm 12 v3) v5) tq11 (isB.r (Or.inl rfl)) ok hF
                    · have hF := (if_neg c12).symm.trans hF
                      refine at_aload_n (pc := 145) C 0 dX12_laysAll_145 rfl rfl ?_
                      refine at_iload_n (pc := 146) C 2 dX12_laysAll_146 rfl rfl ?_
                      refine at_iload (pc := 147) C 4 dX12_laysAll_147 rfl ?_
                      obtain ⟨q13, eq13, hF⟩ := bind_some' hF
                      refine at_callV (pc := 149) (ci := 12) C (c_X12_claimedBy l g N v3 v5 σ q13 h3 h5 ok eq13) kv_X12_claimedBy w1642 kd94 rfl rfl rfl rfl (Nat.le_of_ble_eq_true rfl) ⟨rfl, rfl, (Nat.le_of_ble_eq_true rfl), (Nat.le_of_ble_eq_true rfl)⟩ dX12_laysAll_149 (fun tq13 okq13 => ?_)
                      refine at_goto (pc := 152) (tgt := 156) C dX12_laysAll_152 rfl ?_
                      exact J156 v5 (ja (jm 12 v3) v5) q11 q13 σ h5 (ja_R (jm 12 v3) v5) tq11 tq13 ok hF
          refine at_sub (lv' := [(0, vr g 94), (2, vi v2), (3, vi v3), (4, vi v4), (5, vi 0)]) [1, 2, 3, 4, 0] rfl ?_
          exact L86 v3 v4 0 (upI σ 105 t1 t2) h3 h4 (isB.r (Or.inl rfl)) (OK_up (k := 105) (j := t1) ok ht2) hF
        refine at_istore (pc := 32) (lv' := [(4, vi t0), (0, vr g 94), (2, vi v2), (3, vi v3)]) C dX12_laysAll_32 (Nat.le_of_ble_eq_true rfl) rfl ?_
        refine at_aload_n (pc := 34) C 1 dX12_laysAll_34 rfl rfl ?_
        refine at_getr (pc := 35) (k' := 105) C 11 fw_12_48 kd94 rfl (Nat.le_of_ble_eq_true rfl) rfl rfl dX12_laysAll_35 ?_
        refine at_iload_n (pc := 38) C 3 dX12_laysAll_38 rfl rfl ?_
        refine at_iload (pc := 39) C 0 dX12_laysAll_39 rfl ?_
        refine at_if_ne (pc := 41) (tgt := 48) C (isB.r ht0) dX12_laysAll_41 rfl (fun c14 => ?_) (fun c14 => ?_)
        · have hF := (if_neg c14).symm.trans hF
          refine at_iload_n (pc := 48) C 2 dX12_laysAll_48 rfl rfl ?_
          refine at_if_eq (pc := 49) (tgt := 60) C (isB.r h2) dX12_laysAll_49 rfl (fun c15 => ?_) (fun c15 => ?_)
          · have hF := (if_pos c15).symm.trans hF
            refine at_aload_n (pc := 60) C 1 dX12_laysAll_60 rfl rfl ?_
            refine at_iload_n (pc := 61) C 3 dX12_laysAll_61 rfl rfl ?_
            obtain ⟨q16, eq16, hF⟩ := bind_some' hF
            refine at_callV (pc := 62) (ci := 12) C (c_X12_result l g N v3 σ q16 h3 ok eq16) kv_X12_result w1585 kd94 rfl rfl rfl rfl (Nat.le_of_ble_eq_true rfl) ⟨rfl, rfl, (Nat.le_of_ble_eq_true rfl), (Nat.le_of_ble_eq_true rfl)⟩ dX12_laysAll_62 (fun tq16 okq16 => ?_)
            refine at_if_ge (pc := 65) (tgt := 77) C tq16 dX12_laysAll_65 rfl (fun c17 => ?_) (fun c17 => ?_)
            · have hF := (if_pos c17).symm.trans hF
              refine at_aload_n (pc := 77) C 1 dX12_laysAll_77 rfl rfl ?_
              refine at_iload_n (pc := 78) C 3 dX12_laysAll_78 rfl rfl ?_
              obtain ⟨q18, eq18, hF⟩ := bind_some' hF
              refine at_callV (pc := 79) (ci := 12) C (c_X12_result l g N v3 σ q18 h3 ok eq18) kv_X12_result w1585 kd94 rfl rfl rfl rfl (Nat.le_of_ble_eq_true rfl) ⟨rfl, rfl, (Nat.le_of_ble_eq_true rfl), (Nat.le_of_ble_eq_true rfl)⟩ dX12_laysAll_79 (fun tq18 okq18 => ?_)
              refine at_sub (lv' := [(0, vr g 94), (2, vi v2), (3, vi v3), (4, vi t0)]) [1, 2, 3, 0] rfl ?_
              exact J82 v3 t0 v3 q18 σ h3 ht0 h3 tq18 ok hF
            · have hF := (if_neg c17).symm.trans hF
              refine at_aload_n (pc := 68) C 1 dX12_laysAll_68 rfl rfl ?_
              refine at_iload_n (pc := 69) C 3 dX12_laysAll_69 rfl rfl ?_
              obtain ⟨q19, eq19, hF⟩ := bind_some' hF
              refine at_callV (pc := 70) (ci := 12) C (c_X12_result l g N v3 σ q19 h3 ok eq19) kv_X12_result w1585 kd94 rfl rfl rfl rfl (Nat.le_of_ble_eq_true rfl) ⟨rfl, rfl, (Nat.le_of_ble_eq_true rfl), (Nat.le_of_ble_eq_true rfl)⟩ dX12_laysAll_70 (fun tq19 okq19 => ?_)
              refine at_ineg (pc := 73) C dX12_laysAll_73 ?_
              refine at_goto (pc := 74) (tgt := 82) C dX12_laysAll_74 rfl ?_
              refine at_sub (lv' := [(0, vr g 94), (2, vi v2), (3, vi v3), (4, vi t0)]) [1, 2, 3, 0] rfl ?_
              exact J82 v3 t0 v3 (jneg q19) σ h3 ht0 h3 (jneg_R q19) ok hF
          · have hF := (if_neg c15).symm.trans hF
            refine at_aload_n (pc := 52) C 1 dX12_laysAll_52 rfl rfl ?_
            refine at_iload_n (pc := 53) C 3 dX12_laysAll_53 rfl rfl ?_
            obtain ⟨q20, eq20, hF⟩ := bind_some' hF
            refine at_callV (pc := 54) (ci := 12) C (c_X12_openOf l g N v3 σ q20 h3 ok eq20) kv_X12_openOf w1646 kd94 rfl rfl rfl rfl (Nat.le_of_ble_eq_true rfl) ⟨rfl, rfl, (Nat.le_of_ble_eq_true rfl), (Nat.le_of_ble_eq_true rfl)⟩ dX12_laysAll_54 (fun tq20 okq20 => ?_)
            refine at_goto (pc := 57) (tgt := 82) C dX12_laysAll_57 rfl ?_
            refine at_sub (lv' := [(0, vr g 94), (2, vi v2), (3, vi v3), (4, vi t0)]) [1, 2, 3, 0] rfl ?_
            exact J82 v3 t0 v3 q20 σ h3 ht0 h3 tq20 ok hF
        · have hF := (if_pos c14).symm.trans hF
          refine at_iconst (pc := 44) C dX12_laysAll_44 ?_
          refine at_goto (pc := 45) (tgt := 82) C dX12_laysAll_45 rfl ?_
          refine at_sub (lv' := [(0, vr g 94), (2, vi v2), (3, vi v3), (4, vi t0)]) [1, 2, 3, 0] rfl ?_
          exact J82 v3 t0 v3 0 σ h3 ht0 h3 (isB.r (Or.inl rfl)) ok hF
      refine at_aload_n (pc := 15) C 0 dX12_laysAll_15 rfl rfl ?_
      refine at_iload_n (pc := 16) C 2 dX12_laysAll_16 rfl rfl ?_
      obtain ⟨q21, eq21, hF⟩ := bind_some' hF
      refine at_callV (pc := 17) (ci := 12) C (c_X12_memberOf l g N v3 σ q21 h3 ok eq21) kv_X12_memberOf w1593 kd94 rfl rfl rfl rfl (Nat.le_of_ble_eq_true rfl) ⟨rfl, rfl, (Nat.le_of_ble_eq_true rfl), (Nat.le_of_ble_eq_true rfl)⟩ dX12_laysAll_17 (fun tq21 okq21 => ?_)
      refine at_aload_n (pc := 20) C 0 dX12_laysAll_20 rfl rfl ?_
      refine at_geti (pc := 21) (jz := 38) C fw_12_57 kd94 rfl (Nat.le_of_ble_eq_true rfl) rfl rfl dX12_laysAll_21 ?_
      refine at_icmp_eq (pc := 24) (tgt := 31) C tq21 (ok 94 38) dX12_laysAll_24 rfl (fun c22 => ?_) (fun c22 => ?_)
      · have hF := (if_pos c22).symm.trans hF
        refine at_iconst (pc := 31) C dX12_laysAll_31 ?_
        exact J32 v3 0 σ h3 (Or.inl rfl) ok hF
      · have hF := (if_neg c22).symm.trans hF
        refine at_iconst (pc := 27) C dX12_laysAll_27 ?_
        refine at_goto (pc := 28) (tgt := 32) C dX12_laysAll_28 rfl ?_
        exact J32 v3 1 σ h3 (Or.inr rfl) ok hF
  refine at_sub (lv' := [(0, vr g 94), (2, vi v2), (3, vi 0)]) [1, 3, 0] rfl ?_
  exact L7 v2 0 q1 h2 (isB.r (Or.inl rfl)) okq1 hF
abbrev rm_X12_isBetter : Room := { frames := 0, cells := 0, slots := 0, locals := 0 }
def F_X12_isBetter_J107 (N : Nat)  (v3 : Int) (v4 : Int) (v5 : Int) (σ : Sto) : Option (Int) :=
  inb (ja (jm 12 v3) v5) 156 (inb (ja (jm 12 v4) v5) 156 (if (σ.1 110 (ja (jm 12 v4) v5)) ≤ (σ.1 110 (ja (jm 12 v3) v5)) then (some 0) else (some 1)))
def F_X12_isBetter_B71 (N : Nat) (nx71 : (Int) → Option (Int)) (v2 : Int) (v3 : Int) (v4 : Int) (v5 : Int) (σ : Sto) : Option (Int) :=
  if (js v2 1) ≤ v5 then (some 0) else (inb (ja (jm 12 v3) v5) 156 (inb (ja (jm 12 v4) v5) 156 (if (σ.1 110 (ja (jm 12 v3) v5)) = (σ.1 110 (ja (jm 12 v4) v5)) then (nx71 (ja v5 1)) else (F_X12_isBetter_J107 N  v3 v4 v5 σ))))
def F_X12_isBetter (N : Nat) (v1 : Int) (v2 : Int) (v3 : Int) (v4 : Int) (σ : Sto) : Option (Int) :=
  inb v4 12 (if (σ.1 109 v4) = 0 then (some 1) else (if v1 = (σ.1 108 v4) then (if v2 = (σ.1 109 v4) then (loopK (fun q nx71 => F_X12_isBetter_B71 N  nx71 v2 v3 v4 q σ) N 0) else (if (σ.1 109 v4) ≤ v2 then (some 0) else (some 1))) else (if (σ.1 108 v4) ≤ v1 then (some 0) else (some 1))))
set_option maxHeartbeats 4000000 in
set_option maxRecDepth 100000 in
theorem c_X12_isBetter (l : Launch) (g : Geo) (N : Nat) (v1 : Int) (v2 : Int) (v3 : Int) (v4 : Int) (σ : Sto) (res : Int) (h1 : inR v1) (h2 : inR v2) (h3 : inR v3) (h4 : inR v4) (ok : OK σ) (hF : F_X12_isBetter N v1 v2 v3 v4 σ = some res) : MtI l g yX12_isBetter cX12_isBetter 6 (some .boolean) rm_X12_isBetter [vr g 94, vi v1, vi v2, vi v3, vi v4] σ res σ isB := by
  intro sz
  refine Met.ofAt (own := RX12) (QQ := fun z => QI g z res σ isB) (by decide +kernel) (Nat.le_of_ble_eq_true rfl) rfl ?_
  intro p e s m args below meth c C hr hlk
  show At p l e rm_X12_isBetter s m args below meth c 0 0 g 6 (MQ below (QI g s.heap.size res σ isB) args s 0 0 (AA g s.heap.size)) 0 [(0, vr g 94), (1, vi v1), (2, vi v2), (3, vi v3), (4, vi v4)] [] σ
  unfold F_X12_isBetter at hF
  refine at_aload_n (pc := 0) C 0 dX12_isBetter_0 rfl rfl ?_
  refine at_getr (pc := 1) (k' := 109) C 15 fw_12_63 kd94 rfl (Nat.le_of_ble_eq_true rfl) rfl rfl dX12_isBetter_1 ?_
  refine at_iload (pc := 4) C 4 dX12_isBetter_4 rfl ?_
  obtain ⟨b1, hF⟩ := inb_some hF
  refine at_iaload (pc := 6) C kd109 b1 dX12_isBetter_6 ?_
  refine at_if_ne (pc := 7) (tgt := 12) C (ok 109 v4) dX12_isBetter_7 rfl (fun c2 => ?_) (fun c2 => ?_)
  · have hF := (if_neg c2).symm.trans hF
    refine at_iload_n (pc := 12) C 1 dX12_isBetter_12 rfl rfl ?_
    refine at_aload_n (pc := 13) C 0 dX12_isBetter_13 rfl rfl ?_
    refine at_getr (pc := 14) (k' := 108) C 14 fw_12_60 kd94 rfl (Nat.le_of_ble_eq_true rfl) rfl rfl dX12_isBetter_14 ?_
    refine at_iload (pc := 17) C 4 dX12_isBetter_17 rfl ?_
    refine at_iaload (pc := 19) C kd108 b1 dX12_isBetter_19 ?_
    refine at_icmp_eq (pc := 20) (tgt := 40) C h1 (ok 108 v4) dX12_isBetter_20 rfl (fun c3 => ?_) (fun c3 => ?_)
    · have hF := (if_pos c3).symm.trans hF
      refine at_iload_n (pc := 40) C 2 dX12_isBetter_40 rfl rfl ?_
      refine at_aload_n (pc := 41) C 0 dX12_isBetter_41 rfl rfl ?_
      refine at_getr (pc := 42) (k' := 109) C 15 fw_12_63 kd94 rfl (Nat.le_of_ble_eq_true rfl) rfl rfl dX12_isBetter_42 ?_
      refine at_iload (pc := 45) C 4 dX12_isBetter_45 rfl ?_
      refine at_iaload (pc := 47) C kd109 b1 dX12_isBetter_47 ?_
      refine at_icmp_eq (pc := 48) (tgt := 68) C h2 (ok 109 v4) dX12_isBetter_48 rfl (fun c4 => ?_) (fun c4 => ?_)
      · have hF := (if_pos c4).symm.trans hF
        refine at_iconst (pc := 68) C dX12_isBetter_68 ?_
        refine at_istore (pc := 69) (lv' := [(5, vi 0), (0, vr g 94), (1, vi v1), (2, vi v2), (3, vi v3), (4, vi v4)]) C dX12_isBetter_69 (Nat.le_of_ble_eq_true rfl) rfl ?_
        have L71 : ∀ (v2 : Int) (v3 : Int) (v4 : Int) (v5 : Int), inR v2 → inR v3 → inR v4 → inR v5 → loopK (fun q nx71 => F_X12_isBetter_B71 N  nx71 v2 v3 v4 q σ) N v5 = some res → At p l e rm_X12_isBetter s m args below meth c 0 0 g 6 (MQ below (QI g s.heap.size res σ isB) args s 0 0 (AA g s.heap.size)) 71 [(0, vr g 94), (2, vi v2), (3, vi v3), (4, vi v4), (5, vi v5)] [] σ := by
          intro v2 v3 v4 v5 h2 h3 h4 h5 hF
          refine loopK_ind (res := res) (P := fun (q : Int) => inR q → At p l e rm_X12_isBetter s m args below meth c 0 0 g 6 (MQ below (QI g s.heap.size res σ isB) args s 0 0 (AA g s.heap.size)) 71 [(0, vr g 94), (2, vi v2), (3, vi v3), (4, vi v4), (5, vi q)] [] σ) ?_ N _ hF h5
          intro nx71 v5 ih71 hF h5
          have hF : F_X12_isBetter_B71 N  nx71 v2 v3 v4 v5 σ = some res := hF
          unfold F_X12_isBetter_B71 at hF
          refine at_iload (pc := 71) C 4 dX12_isBetter_71 rfl ?_
          refine at_iload_n (pc := 73) C 1 dX12_isBetter_73 rfl rfl ?_
          refine at_iconst (pc := 74) C dX12_isBetter_74 ?_
          refine at_isub (pc := 75) C dX12_isBetter_75 ?_
          refine at_icmp_ge (pc := 76) (tgt := 147) C h5 (js_R v2 1) dX12_isBetter_76 rfl (fun c5 => ?_) (fun c5 => ?_)
          · have hF := (if_pos c5).symm.trans hF
            refine at_iconst (pc := 147) C dX12_isBetter_147 ?_
            obtain rfl := Option.some.inj hF
            exact at_zret (pc := 148) C hr hlk (Or.inl rfl) ok dX12_isBetter_148
          · have hF := (if_neg c5).symm.trans hF
            have J107 : ∀ (v3 : Int) (v4 : Int) (v5 : Int), inR v3 → inR v4 → inR v5 → F_X12_isBetter_J107 N  v3 v4 v5 σ = some res → At p l e rm_X12_isBetter s m args below meth c 0 0 g 6 (MQ below (QI g s.heap.size res σ isB) args s 0 0 (AA g s.heap.size)) 107 [(0, vr g 94), (3, vi v3), (4, vi v4), (5, vi v5)] [] σ := by
              intro v3 v4 v5 h3 h4 h5 hF
              unfold F_X12_isBetter_J107 at hF
              refine at_aload_n (pc := 107) C 0 dX12_isBetter_107 rfl rfl ?_
              refine at_getr (pc := 108) (k' := 110) C 16 fw_12_66 kd94 rfl (Nat.le_of_ble_eq_true rfl) rfl rfl dX12_isBetter_108 ?_
              refine at_bipush (pc := 111) C dX12_isBetter_111 (by decide) ?_
              refine at_iload_n (pc := 113) C 1 dX12_isBetter_113 rfl rfl ?_
              refine at_imul (pc := 114) C dX12_isBetter_114 ?_
              refine at_iload (pc := 115) C 3 dX12_isBetter_115 rfl ?_
              refine at_iadd (pc := 117) C dX12_isBetter_117 ?_
              obtain ⟨b6, hF⟩ := inb_some hF
              refine at_iaload (pc := 118) C kd110 b6 dX12_isBetter_118 ?_
              refine at_aload_n (pc := 119) C 0 dX12_isBetter_119 rfl rfl ?_
              refine at_getr (pc := 120) (k' := 110) C 16 fw_12_66 kd94 rfl (Nat.le_of_ble_eq_true rfl) rfl rfl dX12_isBetter_120 ?_
              refine at_bipush (pc := 123) C dX12_isBetter_123 (by decide) ?_
              refine at_iload (pc := 125) C 2 dX12_isBetter_125 rfl ?_
              refine at_imul (pc := 127) C dX12_isBetter_127 ?_
              refine at_iload (pc := 128) C 3 dX12_isBetter_128 rfl ?_
              refine at_iadd (pc := 130) C dX12_isBetter_130 ?_
              obtain ⟨b7, hF⟩ := inb_some hF
              refine at_iaload (pc := 131) C kd110 b7 dX12_isBetter_131 ?_
              refine at_icmp_ge (pc := 132) (tgt := 139) C (ok 110 (ja (jm 12 v3) v5)) (ok 110 (ja (jm 12 v4) v5)) dX12_isBetter_132 rfl (fun c8 => ?_) (fun c8 => ?_)
              · have hF := (if_pos c8).symm.trans hF
                refine at_iconst (pc := 139) C dX12_isBetter_139 ?_
                obtain rfl := Option.some.inj hF
                exact at_zret (pc := 140) C hr hlk (Or.inl rfl) ok dX12_isBetter_140
              · have hF := (if_neg c8).symm.trans hF
                refine at_iconst (pc := 135) C dX12_isBetter_135 ?_
                refine at_goto (pc := 136) (tgt := 140) C dX12_isBetter_136 rfl ?_
                obtain rfl := Option.some.inj hF
                exact at_zret (pc := 140) C hr hlk (Or.inr rfl) ok dX12_isBetter_140
            refine at_aload_n (pc := 79) C 0 dX12_isBetter_79 rfl rfl ?_
            refine at_getr (pc := 80) (k' := 110) C 16 fw_12_66 kd94 rfl (Nat.le_of_ble_eq_true rfl) rfl rfl dX12_isBetter_80 ?_
            refine at_bipush (pc := 83) C dX12_isBetter_83 (by decide) ?_
            refine at_iload_n (pc := 85) C 2 dX12_isBetter_85 rfl rfl ?_
            refine at_imul (pc := 86) C dX12_isBetter_86 ?_
            refine at_iload (pc := 87) C 4 dX12_isBetter_87 rfl ?_
            refine at_iadd (pc := 89) C dX12_isBetter_89 ?_
            obtain ⟨b9, hF⟩ := inb_some hF
            refine at_iaload (pc := 90) C kd110 b9 dX12_isBetter_90 ?_
            refine at_aload_n (pc := 91) C 0 dX12_isBetter_91 rfl rfl ?_
            refine at_getr (pc := 92) (k' := 110) C 16 fw_12_66 kd94 rfl (Nat.le_of_ble_eq_true rfl) rfl rfl dX12_isBetter_92 ?_
            refine at_bipush (pc := 95) C dX12_isBetter_95 (by decide) ?_
            refine at_iload (pc := 97) C 3 dX12_isBetter_97 rfl ?_
            refine at_imul (pc := 99) C dX12_isBetter_99 ?_
            refine at_iload (pc := 100) C 4 dX12_isBetter_100 rfl ?_
            refine at_iadd (pc := 102) C dX12_isBetter_102 ?_
            obtain ⟨b10, hF⟩ := inb_some hF
            refine at_iaload (pc := 103) C kd110 b10 dX12_isBetter_103 ?_
            refine at_icmp_eq (pc := 104) (tgt := 141) C (ok 110 (ja (jm 12 v3) v5)) (ok 110 (ja (jm 12 v4) v5)) dX12_isBetter_104 rfl (fun c11 => ?_) (fun c11 => ?_)
            · have hF := (if_pos c11).symm.trans hF
              refine at_iinc (pc := 141) (lv' := [(5, vi (ja v5 1)), (0, vr g 94), (2, vi v2), (3, vi v3), (4, vi v4)]) C 4 dX12_isBetter_141 rfl (Nat.le_of_ble_eq_true rfl) rfl ?_
              refine at_goto (pc := 144) (tgt := 71) C dX12_isBetter_144 rfl ?_
              refine at_sub (lv' := [(0, vr g 94), (2, vi v2), (3, vi v3), (4, vi v4), (5, vi (ja v5 1))]) [1, 2, 3, 4, 0] rfl ?_
              exact ih71 _ hF (ja_R v5 1)
            · have hF := (if_neg c11).symm.trans hF
              refine at_sub (lv' := [(0, vr g 94), (3, vi v3), (4, vi v4), (5, vi v5)]) [0, 2, 3, 4] rfl ?_
              exact J107 v3 v4 v5 h3 h4 h5 hF
        refine at_sub (lv' := [(0, vr g 94), (2, vi v2), (3, vi v3), (4, vi v4), (5, vi 0)]) [1, 3, 4, 5, 0] rfl ?_
        exact L71 v2 v3 v4 0 h2 h3 h4 (isB.r (Or.inl rfl)) hF
      · have hF := (if_neg c4).symm.trans hF
        refine at_iload_n (pc := 51) C 2 dX12_isBetter_51 rfl rfl ?_
        refine at_aload_n (pc := 52) C 0 dX12_isBetter_52 rfl rfl ?_
        refine at_getr (pc := 53) (k' := 109) C 15 fw_12_63 kd94 rfl (Nat.le_of_ble_eq_true rfl) rfl rfl dX12_isBetter_53 ?_
        refine at_iload (pc := 56) C 4 dX12_isBetter_56 rfl ?_
        refine at_iaload (pc := 58) C kd109 b1 dX12_isBetter_58 ?_
        refine at_icmp_ge (pc := 59) (tgt := 66) C h2 (ok 109 v4) dX12_isBetter_59 rfl (fun c12 => ?_) (fun c12 => ?_)
        · have hF := (if_pos c12).symm.trans hF
          refine at_iconst (pc := 66) C dX12_isBetter_66 ?_
          obtain rfl := Option.some.inj hF
          exact at_zret (pc := 67) C hr hlk (Or.inl rfl) ok dX12_isBetter_67
        · have hF := (if_neg c12).symm.trans hF
          refine at_iconst (pc := 62) C dX12_isBetter_62 ?_
          refine at_goto (pc := 63) (tgt := 67) C dX12_isBetter_63 rfl ?_
          obtain rfl := Option.some.inj hF
          exact at_zret (pc := 67) C hr hlk (Or.inr rfl) ok dX12_isBetter_67
    · have hF := (if_neg c3).symm.trans hF
      refine at_iload_n (pc := 23) C 1 dX12_isBetter_23 rfl rfl ?_
      refine at_aload_n (pc := 24) C 0 dX12_isBetter_24 rfl rfl ?_
      refine at_getr (pc := 25) (k' := 108) C 14 fw_12_60 kd94 rfl (Nat.le_of_ble_eq_true rfl) rfl rfl dX12_isBetter_25 ?_
      refine at_iload (pc := 28) C 4 dX12_isBetter_28 rfl ?_
      refine at_iaload (pc := 30) C kd108 b1 dX12_isBetter_30 ?_
      refine at_icmp_ge (pc := 31) (tgt := 38) C h1 (ok 108 v4) dX12_isBetter_31 rfl (fun c13 => ?_) (fun c13 => ?_)
      · have hF := (if_pos c13).symm.trans hF
        refine at_iconst (pc := 38) C dX12_isBetter_38 ?_
        obtain rfl := Option.some.inj hF
        exact at_zret (pc := 39) C hr hlk (Or.inl rfl) ok dX12_isBetter_39
      · have hF := (if_neg c13).symm.trans hF
        refine at_iconst (pc := 34) C dX12_isBetter_34 ?_
        refine at_goto (pc := 35) (tgt := 39) C dX12_isBetter_35 rfl ?_
        obtain rfl := Option.some.inj hF
        exact at_zret (pc := 39) C hr hlk (Or.inr rfl) ok dX12_isBetter_39
  · have hF := (if_pos c2).symm.trans hF
    refine at_iconst (pc := 10) C dX12_isBetter_10 ?_
    obtain rfl := Option.some.inj hF
    exact at_zret (pc := 11) C hr hlk (Or.inr rfl) ok dX12_isBetter_11
abbrev rm_X12_goes : Room := { frames := 1, cells := 0, slots := 0, locals := 25 }
def F_X12_goes_J119 (N : Nat)  (v1 : Int) (v2 : Int) (σ : Sto) : Option (Int × Sto) :=
  inb v1 12 (inb (ja (jm 12 v2) (σ.1 109 v1)) 156 (some (1, (upI σ 110 (ja (jm 12 v2) (σ.1 109 v1)) v2))))
def F_X12_goes_B78 (N : Nat) (nx78 : (Int × Sto) → Option (Int × Sto)) (v1 : Int) (v2 : Int) (v4 : Int) (σ : Sto) : Option (Int × Sto) :=
  inb v1 12 (if (σ.1 109 v1) ≤ v4 then (F_X12_goes_J119 N  v1 v2 σ) else (inb (ja (jm 12 v1) v4) 156 (inb (ja (jm 12 v2) v4) 156 (nx78 ((ja v4 1), (upI σ 110 (ja (jm 12 v2) v4) (σ.1 110 (ja (jm 12 v1) v4))))))))
def F_X12_goes (N : Nat) (v1 : Int) (v2 : Int) (v3 : Int) (σ : Sto) : Option (Int × Sto) :=
  inb v1 12 (if (σ.1 109 v1) = 0 then (some (0, σ)) else (if (σ.1 109 v1) = 12 then (some (0, σ)) else ((F_X12_isBetter N (ja (σ.1 108 v1) v3) (ja (σ.1 109 v1) 1) v1 v2 σ).bind (fun q4 => if q4 = 0 then (some (0, σ)) else (inb v2 12 (loopK (fun q nx78 => F_X12_goes_B78 N  nx78 v1 v2 q.1 q.2) N (0, (upI (upI σ 108 v2 (ja (σ.1 108 v1) v3)) 109 v2 (ja ((upI σ 108 v2 (ja (σ.1 108 v1) v3)).1 109 v1) 1)))))))))
set_option maxHeartbeats 4000000 in
set_option maxRecDepth 100000 in
theorem c_X12_goes (l : Launch) (g : Geo) (N : Nat) (v1 : Int) (v2 : Int) (v3 : Int) (σ : Sto) (res : Int × Sto) (h1 : inR v1) (h2 : inR v2) (h3 : inR v3) (ok : OK σ) (hF : F_X12_goes N v1 v2 v3 σ = some res) : MtI l g yX12_goes cX12_goes 5 (some .boolean) rm_X12_goes [vr g 94, vi v1, vi v2, vi v3] σ res.1 res.2 isB := by
  intro sz
  refine Met.ofAt (own := RX12) (QQ := fun z => QI g z res.1 res.2 isB) (by decide +kernel) (Nat.le_of_ble_eq_true rfl) rfl ?_
  intro p e s m args below meth c C hr hlk
  show At p l e rm_X12_goes s m args below meth c 0 0 g 5 (MQ below (QI g s.heap.size res.1 res.2 isB) args s 0 0 (AA g s.heap.size)) 0 [(0, vr g 94), (1, vi v1), (2, vi v2), (3, vi v3)] [] σ
  unfold F_X12_goes at hF
  refine at_aload_n (pc := 0) C 0 dX12_goes_0 rfl rfl ?_
  refine at_getr (pc := 1) (k' := 109) C 15 fw_12_63 kd94 rfl (Nat.le_of_ble_eq_true rfl) rfl rfl dX12_goes_1 ?_
  refine at_iload_n (pc := 4) C 1 dX12_goes_4 rfl rfl ?_
  obtain ⟨b1, hF⟩ := inb_some hF
  refine at_iaload (pc := 5) C kd109 b1 dX12_goes_5 ?_
  refine at_if_eq (pc := 6) (tgt := 45) C (ok 109 v1) dX12_goes_6 rfl (fun c2 => ?_) (fun c2 => ?_)
  · have hF := (if_pos c2).symm.trans hF
    refine at_iconst (pc := 45) C dX12_goes_45 ?_
    obtain rfl := Option.some.inj hF
    exact at_zret (pc := 46) C hr hlk (Or.inl rfl) ok dX12_goes_46
  · have hF := (if_neg c2).symm.trans hF
    refine at_aload_n (pc := 9) C 0 dX12_goes_9 rfl rfl ?_
    refine at_getr (pc := 10) (k' := 109) C 15 fw_12_63 kd94 rfl (Nat.le_of_ble_eq_true rfl) rfl rfl dX12_goes_10 ?_
    refine at_iload_n (pc := 13) C 1 dX12_goes_13 rfl rfl ?_
    refine at_iaload (pc := 14) C kd109 b1 dX12_goes_14 ?_
    refine at_bipush (pc := 15) C dX12_goes_15 (by decide) ?_
    refine at_icmp_eq (pc := 17) (tgt := 45) C (ok 109 v1) (show inR 12 from ⟨by decide, by decide⟩) dX12_goes_17 rfl (fun c3 => ?_) (fun c3 => ?_)
    · have hF := (if_pos c3).symm.trans hF
      refine at_iconst (pc := 45) C dX12_goes_45 ?_
      obtain rfl := Option.some.inj hF
      exact at_zret (pc := 46) C hr hlk (Or.inl rfl) ok dX12_goes_46
    · have hF := (if_neg c3).symm.trans hF
      refine at_aload_n (pc := 20) C 0 dX12_goes_20 rfl rfl ?_
      refine at_aload_n (pc := 21) C 0 dX12_goes_21 rfl rfl ?_
      refine at_getr (pc := 22) (k' := 108) C 14 fw_12_60 kd94 rfl (Nat.le_of_ble_eq_true rfl) rfl rfl dX12_goes_22 ?_
      refine at_iload_n (pc := 25) C 1 dX12_goes_25 rfl rfl ?_
      refine at_iaload (pc := 26) C kd108 b1 dX12_goes_26 ?_
      refine at_iload_n (pc := 27) C 3 dX12_goes_27 rfl rfl ?_
      refine at_iadd (pc := 28) C dX12_goes_28 ?_
      refine at_aload_n (pc := 29) C 0 dX12_goes_29 rfl rfl ?_
      refine at_getr (pc := 30) (k' := 109) C 15 fw_12_63 kd94 rfl (Nat.le_of_ble_eq_true rfl) rfl rfl dX12_goes_30 ?_
      refine at_iload_n (pc := 33) C 1 dX12_goes_33 rfl rfl ?_
      refine at_iaload (pc := 34) C kd109 b1 dX12_goes_34 ?_
      refine at_iconst (pc := 35) C dX12_goes_35 ?_
      refine at_iadd (pc := 36) C dX12_goes_36 ?_
      refine at_iload_n (pc := 37) C 1 dX12_goes_37 rfl rfl ?_
      refine at_iload_n (pc := 38) C 2 dX12_goes_38 rfl rfl ?_
      obtain ⟨q4, eq4, hF⟩ := bind_some' hF
      refine at_callV (pc := 39) (ci := 12) C (c_X12_isBetter l g N (ja (σ.1 108 v1) v3) (ja (σ.1 109 v1) 1) v1 v2 σ q4 (ja_R (σ.1 108 v1) v3) (ja_R (σ.1 109 v1) 1) h1 h2 ok eq4) kv_X12_isBetter w1707 kd94 rfl rfl rfl rfl (Nat.le_of_ble_eq_true rfl) ⟨rfl, rfl, (Nat.le_of_ble_eq_true rfl), (Nat.le_of_ble_eq_true rfl)⟩ dX12_goes_39 (fun tq4 okq4 => ?_)
      refine at_if_ne (pc := 42) (tgt := 47) C (isB.r tq4) dX12_goes_42 rfl (fun c5 => ?_) (fun c5 => ?_)
      · have hF := (if_neg c5).symm.trans hF
        refine at_aload_n (pc := 47) C 0 dX12_goes_47 rfl rfl ?_
        refine at_getr (pc := 48) (k' := 108) C 14 fw_12_60 kd94 rfl (Nat.le_of_ble_eq_true rfl) rfl rfl dX12_goes_48 ?_
        refine at_iload_n (pc := 51) C 2 dX12_goes_51 rfl rfl ?_
        refine at_aload_n (pc := 52) C 0 dX12_goes_52 rfl rfl ?_
        refine at_getr (pc := 53) (k' := 108) C 14 fw_12_60 kd94 rfl (Nat.le_of_ble_eq_true rfl) rfl rfl dX12_goes_53 ?_
        refine at_iload_n (pc := 56) C 1 dX12_goes_56 rfl rfl ?_
        refine at_iaload (pc := 57) C kd108 b1 dX12_goes_57 ?_
        refine at_iload_n (pc := 58) C 3 dX12_goes_58 rfl rfl ?_
        refine at_iadd (pc := 59) C dX12_goes_59 ?_
        obtain ⟨b6, hF⟩ := inb_some hF
        refine at_iastore (pc := 60) C kd108 b6 dX12_goes_60 ?_
        refine at_aload_n (pc := 61) C 0 dX12_goes_61 rfl rfl ?_
        refine at_getr (pc := 62) (k' := 109) C 15 fw_12_63 kd94 rfl (Nat.le_of_ble_eq_true rfl) rfl rfl dX12_goes_62 ?_
        refine at_iload_n (pc := 65) C 2 dX12_goes_65 rfl rfl ?_
        refine at_aload_n (pc := 66) C 0 dX12_goes_66 rfl rfl ?_
        refine at_getr (pc := 67) (k' := 109) C 15 fw_12_63 kd94 rfl (Nat.le_of_ble_eq_true rfl) rfl rfl dX12_goes_67 ?_
        refine at_iload_n (pc := 70) C 1 dX12_goes_70 rfl rfl ?_
        refine at_iaload (pc := 71) C kd109 b1 dX12_goes_71 ?_
        refine at_iconst (pc := 72) C dX12_goes_72 ?_
        refine at_iadd (pc := 73) C dX12_goes_73 ?_
        refine at_iastore (pc := 74) C kd109 b6 dX12_goes_74 ?_
        refine at_iconst (pc := 75) C dX12_goes_75 ?_
        refine at_istore (pc := 76) (lv' := [(4, vi 0), (0, vr g 94), (1, vi v1), (2, vi v2), (3, vi v3)]) C dX12_goes_76 (Nat.le_of_ble_eq_true rfl) rfl ?_
        have L78 : ∀ (v1 : Int) (v2 : Int) (v4 : Int) (σ : Sto), inR v1 → inR v2 → inR v4 → OK σ → loopK (fun q nx78 => F_X12_goes_B78 N  nx78 v1 v2 q.1 q.2) N (v4, σ) = some res → At p l e rm_X12_goes s m args below meth c 0 0 g 5 (MQ below (QI g s.heap.size res.1 res.2 isB) args s 0 0 (AA g s.heap.size)) 78 [(0, vr g 94), (1, vi v1), (2, vi v2), (4, vi v4)] [] σ := by
          intro v1 v2 v4 σ h1 h2 h4 ok hF
          refine loopK_ind (res := res) (P := fun (q : Int × Sto) => inR q.1 → OK q.2 → At p l e rm_X12_goes s m args below meth c 0 0 g 5 (MQ below (QI g s.heap.size res.1 res.2 isB) args s 0 0 (AA g s.heap.size)) 78 [(0, vr g 94), (1, vi v1), (2, vi v2), (4, vi q.1)] [] q.2) ?_ N _ hF h4 ok
          intro nx78 q ih78 hF
          obtain ⟨v4, σ⟩ := q
          intro h4 ok
          have hF : F_X12_goes_B78 N  nx78 v1 v2 v4 σ = some res := hF
          unfold F_X12_goes_B78 at hF
          have J119 : ∀ (v1 : Int) (v2 : Int) (σ : Sto), inR v1 → inR v2 → OK σ → F_X12_goes_J119 N  v1 v2 σ = some res → At p l e rm_X12_goes s m args below meth c 0 0 g 5 (MQ below (QI g s.heap.size res.1 res.2 isB) args s 0 0 (AA g s.heap.size)) 119 [(0, vr g 94), (1, vi v1), (2, vi v2)] [] σ := by
            intro v1 v2 σ h1 h2 ok hF
            unfold F_X12_goes_J119 at hF
            refine at_aload_n (pc := 119) C 0 dX12_goes_119 rfl rfl ?_
            refine at_getr (pc := 120) (k' := 110) C 16 fw_12_66 kd94 rfl (Nat.le_of_ble_eq_true rfl) rfl rfl dX12_goes_120 ?_
            refine at_bipush (pc := 123) C dX12_goes_123 (by decide) ?_
            refine at_iload_n (pc := 125) C 2 dX12_goes_125 rfl rfl ?_
            refine at_imul (pc := 126) C dX12_goes_126 ?_
            refine at_aload_n (pc := 127) C 0 dX12_goes_127 rfl rfl ?_
            refine at_getr (pc := 128) (k' := 109) C 15 fw_12_63 kd94 rfl (Nat.le_of_ble_eq_true rfl) rfl rfl dX12_goes_128 ?_
            refine at_iload_n (pc := 131) C 1 dX12_goes_131 rfl rfl ?_
            obtain ⟨b7, hF⟩ := inb_some hF
            refine at_iaload (pc := 132) C kd109 b7 dX12_goes_132 ?_
            refine at_iadd (pc := 133) C dX12_goes_133 ?_
            refine at_iload_n (pc := 134) C 2 dX12_goes_134 rfl rfl ?_
            obtain ⟨b8, hF⟩ := inb_some hF
            refine at_iastore (pc := 135) C kd110 b8 dX12_goes_135 ?_
            refine at_iconst (pc := 136) C dX12_goes_136 ?_
            obtain rfl := Option.some.inj hF
            exact at_zret (pc := 137) C hr hlk (Or.inr rfl) (OK_up (k := 110) (j := (ja (jm 12 v2) (σ.1 109 v1))) ok h2) dX12_goes_137
          refine at_iload (pc := 78) C 3 dX12_goes_78 rfl ?_
          refine at_aload_n (pc := 80) C 0 dX12_goes_80 rfl rfl ?_
          refine at_getr (pc := 81) (k' := 109) C 15 fw_12_63 kd94 rfl (Nat.le_of_ble_eq_true rfl) rfl rfl dX12_goes_81 ?_
          refine at_iload_n (pc := 84) C 1 dX12_goes_84 rfl rfl ?_
          obtain ⟨b9, hF⟩ := inb_some hF
          refine at_iaload (pc := 85) C kd109 b9 dX12_goes_85 ?_
          refine at_icmp_ge (pc := 86) (tgt := 119) C h4 (ok 109 v1) dX12_goes_86 rfl (fun c10 => ?_) (fun c10 => ?_)
          · have hF := (if_pos c10).symm.trans hF
            refine at_sub (lv' := [(0, vr g 94), (1, vi v1), (2, vi v2)]) [0, 1, 2] rfl ?_
            exact J119 v1 v2 σ h1 h2 ok hF
          · have hF := (if_neg c10).symm.trans hF
            refine at_aload_n (pc := 89) C 0 dX12_goes_89 rfl rfl ?_
            refine at_getr (pc := 90) (k' := 110) C 16 fw_12_66 kd94 rfl (Nat.le_of_ble_eq_true rfl) rfl rfl dX12_goes_90 ?_
            refine at_bipush (pc := 93) C dX12_goes_93 (by decide) ?_
            refine at_iload_n (pc := 95) C 2 dX12_goes_95 rfl rfl ?_
            refine at_imul (pc := 96) C dX12_goes_96 ?_
            refine at_iload (pc := 97) C 3 dX12_goes_97 rfl ?_
            refine at_iadd (pc := 99) C dX12_goes_99 ?_
            refine at_aload_n (pc := 100) C 0 dX12_goes_100 rfl rfl ?_
            refine at_getr (pc := 101) (k' := 110) C 16 fw_12_66 kd94 rfl (Nat.le_of_ble_eq_true rfl) rfl rfl dX12_goes_101 ?_
            refine at_bipush (pc := 104) C dX12_goes_104 (by decide) ?_
            refine at_iload_n (pc := 106) C 1 dX12_goes_106 rfl rfl ?_
            refine at_imul (pc := 107) C dX12_goes_107 ?_
            refine at_iload (pc := 108) C 3 dX12_goes_108 rfl ?_
            refine at_iadd (pc := 110) C dX12_goes_110 ?_
            obtain ⟨b11, hF⟩ := inb_some hF
            refine at_iaload (pc := 111) C kd110 b11 dX12_goes_111 ?_
            obtain ⟨b12, hF⟩ := inb_some hF
            refine at_iastore (pc := 112) C kd110 b12 dX12_goes_112 ?_
            refine at_iinc (pc := 113) (lv' := [(4, vi (ja v4 1)), (0, vr g 94), (1, vi v1), (2, vi v2)]) C 3 dX12_goes_113 rfl (Nat.le_of_ble_eq_true rfl) rfl ?_
            refine at_goto (pc := 116) (tgt := 78) C dX12_goes_116 rfl ?_
            refine at_sub (lv' := [(0, vr g 94), (1, vi v1), (2, vi v2), (4, vi (ja v4 1))]) [1, 2, 3, 0] rfl ?_
            exact ih78 _ hF (ja_R v4 1) (OK_up (k := 110) (j := (ja (jm 12 v2) v4)) ok (ok 110 (ja (jm 12 v1) v4)))
        refine at_sub (lv' := [(0, vr g 94), (1, vi v1), (2, vi v2), (4, vi 0)]) [1, 2, 3, 0] rfl ?_
        exact L78 v1 v2 0 (upI (upI σ 108 v2 (ja (σ.1 108 v1) v3)) 109 v2 (ja ((upI σ 108 v2 (ja (σ.1 108 v1) v3)).1 109 v1) 1)) h1 h2 (isB.r (Or.inl rfl)) (OK_up (k := 109) (j := v2) (OK_up (k := 108) (j := v2) ok (ja_R (σ.1 108 v1) v3)) (ja_R ((upI σ 108 v2 (ja (σ.1 108 v1) v3)).1 109 v1) 1)) hF
      · have hF := (if_pos c5).symm.trans hF
        refine at_iconst (pc := 45) C dX12_goes_45 ?_
        obtain rfl := Option.some.inj hF
        exact at_zret (pc := 46) C hr hlk (Or.inl rfl) ok dX12_goes_46
abbrev rm_X12_laysRoutes : Room := { frames := 3, cells := 0, slots := 0, locals := 67 }
def F_X12_laysRoutes_J164 (N : Nat) (nx63 : (Int × Sto) → Option (Sto)) (v1 : Int) (σ : Sto) : Option (Sto) :=
  nx63 (v1, σ)
def F_X12_laysRoutes_J158 (N : Nat) (nx63 : (Int × Sto) → Option (Sto)) (nx71 : (Int × Int × Sto) → Option (Sto)) (v1 : Int) (v2 : Int) (σ : Sto) : Option (Sto) :=
  nx71 (v1, (ja v2 1), σ)
def F_X12_laysRoutes_J152 (N : Nat) (nx63 : (Int × Sto) → Option (Sto)) (nx71 : (Int × Int × Sto) → Option (Sto)) (nx81 : (Int × Int × Sto) → Option (Sto)) (v1 : Int) (v2 : Int) (v3 : Int) (σ : Sto) : Option (Sto) :=
  nx81 (v1, (ja v3 1), σ)
def F_X12_laysRoutes_J120 (N : Nat) (nx63 : (Int × Sto) → Option (Sto)) (nx71 : (Int × Int × Sto) → Option (Sto)) (nx81 : (Int × Int × Sto) → Option (Sto)) (v1 : Int) (v2 : Int) (v3 : Int) (σ : Sto) : Option (Sto) :=
  inb (ja (jm 12 v2) v3) 144 (if (σ.1 107 (ja (jm 12 v2) v3)) ≤ 0 then (F_X12_laysRoutes_J152 N nx63 nx71 nx81 v1 v2 v3 σ) else ((F_X12_priceOf N v2 v3 σ).bind (fun q6 => (F_X12_goes N v3 v2 (jneg q6) σ).bind (fun q7 => if q7.1 = 0 then (F_X12_laysRoutes_J152 N nx63 nx71 nx81 v1 v2 v3 q7.2) else (F_X12_laysRoutes_J152 N nx63 nx71 nx81 1 v2 v3 q7.2)))))
def F_X12_laysRoutes_B81 (N : Nat) (nx63 : (Int × Sto) → Option (Sto)) (nx71 : (Int × Int × Sto) → Option (Sto)) (nx81 : (Int × Int × Sto) → Option (Sto)) (v2 : Int) (v1 : Int) (v3 : Int) (σ : Sto) : Option (Sto) :=
  if (σ.1 94 14) ≤ v3 then (F_X12_laysRoutes_J158 N nx63 nx71 v1 v2 σ) else (inb (ja (jm 12 v2) v3) 144 (if (σ.1 106 (ja (jm 12 v2) v3)) ≤ 0 then (F_X12_laysRoutes_J120 N nx63 nx71 nx81 v1 v2 v3 σ) else ((F_X12_priceOf N v2 v3 σ).bind (fun q11 => (F_X12_goes N v2 v3 q11 σ).bind (fun q12 => if q12.1 = 0 then (F_X12_laysRoutes_J120 N nx63 nx71 nx81 v1 v2 v3 q12.2) else (F_X12_laysRoutes_J120 N nx63 nx71 nx81 1 v2 v3 q12.2))))))
def F_X12_laysRoutes_B71 (N : Nat) (nx63 : (Int × Sto) → Option (Sto)) (nx71 : (Int × Int × Sto) → Option (Sto))  (v1 : Int) (v2 : Int) (σ : Sto) : Option (Sto) :=
  if (σ.1 94 14) ≤ v2 then (F_X12_laysRoutes_J164 N nx63 v1 σ) else (loopK (fun q nx81 => F_X12_laysRoutes_B81 N nx63 nx71 nx81 v2 q.1 q.2.1 q.2.2) N (v1, 0, σ))
def F_X12_laysRoutes_B63 (N : Nat) (nx63 : (Int × Sto) → Option (Sto))  (v1 : Int) (σ : Sto) : Option (Sto) :=
  if v1 = 0 then (some σ) else (loopK (fun q nx71 => F_X12_laysRoutes_B71 N nx63 nx71  q.1 q.2.1 q.2.2) N (0, 0, σ))
def F_X12_laysRoutes_J61 (N : Nat)   (σ : Sto) : Option (Sto) :=
  loopK (fun q nx63 => F_X12_laysRoutes_B63 N  nx63  q.1 q.2) N (1, σ)
def F_X12_laysRoutes_J37 (N : Nat) (nx2 : (Int × Sto) → Option (Sto)) (v1 : Int) (t1 : Int) (t2 : Int) (σ : Sto) : Option (Sto) :=
  inb t1 12 (inb v1 12 (inb (jm 12 v1) 156 (nx2 ((ja v1 1), (upI (upI (upI σ 109 t1 t2) 108 v1 0) 110 (jm 12 v1) v1)))))
def F_X12_laysRoutes_J36 (N : Nat) (nx2 : (Int × Sto) → Option (Sto)) (v1 : Int) (t1 : Int) (σ : Sto) : Option (Sto) :=
  F_X12_laysRoutes_J37 N nx2 v1 t1 0 σ
def F_X12_laysRoutes_B2 (N : Nat) (nx2 : (Int × Sto) → Option (Sto))  (v1 : Int) (σ : Sto) : Option (Sto) :=
  if (σ.1 94 14) ≤ v1 then (F_X12_laysRoutes_J61 N   σ) else ((F_X12_result N v1 σ).bind (fun q18 => if 0 ≤ q18 then (F_X12_laysRoutes_J36 N nx2 v1 v1 σ) else (inb v1 12 (if (σ.1 105 v1) ≤ 0 then (F_X12_laysRoutes_J36 N nx2 v1 v1 σ) else (F_X12_laysRoutes_J37 N nx2 v1 v1 1 σ)))))
def F_X12_laysRoutes (N : Nat)  (σ : Sto) : Option (Sto) :=
  loopK (fun q nx2 => F_X12_laysRoutes_B2 N  nx2  q.1 q.2) N (0, σ)
set_option maxHeartbeats 4000000 in
set_option maxRecDepth 100000 in
theorem c_X12_laysRoutes (l : Launch) (g : Geo) (N : Nat)  (σ : Sto) (res : Sto)  (ok : OK σ) (hF : F_X12_laysRoutes N  σ = some res) : MtV l g yX12_laysRoutes cX12_laysRoutes 4 none rm_X12_laysRoutes [vr g 94] σ res := by
  intro sz
  refine Met.ofAt (own := RX12) (QQ := fun z => QV g z res) (by decide +kernel) (Nat.le_of_ble_eq_true rfl) rfl ?_
  intro p e s m args below meth c C hr hlk
  show At p l e rm_X12_laysRoutes s m args below meth c 0 0 g 4 (MQ below (QV g s.heap.size res) args s 0 0 (AA g s.heap.size)) 0 [(0, vr g 94)] [] σ
  unfold F_X12_laysRoutes at hF
  refine at_iconst (pc := 0) C dX12_laysRoutes_0 ?_
  refine at_istore_n (pc := 1) (lv' := [(1, vi 0), (0, vr g 94)]) C dX12_laysRoutes_1 rfl (Nat.le_of_ble_eq_true rfl) rfl ?_
  have L2 : ∀ (v1 : Int) (σ : Sto), inR v1 → OK σ → loopK (fun q nx2 => F_X12_laysRoutes_B2 N  nx2  q.1 q.2) N (v1, σ) = some res → At p l e rm_X12_laysRoutes s m args below meth c 0 0 g 4 (MQ below (QV g s.heap.size res) args s 0 0 (AA g s.heap.size)) 2 [(0, vr g 94), (1, vi v1)] [] σ := by
    intro v1 σ h1 ok hF
    refine loopK_ind (res := res) (P := fun (q : Int × Sto) => inR q.1 → OK q.2 → At p l e rm_X12_laysRoutes s m args below meth c 0 0 g 4 (MQ below (QV g s.heap.size res) args s 0 0 (AA g s.heap.size)) 2 [(0, vr g 94), (1, vi q.1)] [] q.2) ?_ N _ hF h1 ok
    intro nx2 q ih2 hF
    obtain ⟨v1, σ⟩ := q
    intro h1 ok
    have hF : F_X12_laysRoutes_B2 N  nx2  v1 σ = some res := hF
    unfold F_X12_laysRoutes_B2 at hF
    have J61 : ∀  (σ : Sto), OK σ → F_X12_laysRoutes_J61 N   σ = some res → At p l e rm_X12_laysRoutes s m args below meth c 0 0 g 4 (MQ below (QV g s.heap.size res) args s 0 0 (AA g s.heap.size)) 61 [(0, vr g 94)] [] σ := by
      intro σ ok hF
      unfold F_X12_laysRoutes_J61 at hF
      refine at_iconst (pc := 61) C dX12_laysRoutes_61 ?_
      refine at_istore_n (pc := 62) (lv' := [(1, vi 1), (0, vr g 94)]) C dX12_laysRoutes_62 rfl (Nat.le_of_ble_eq_true rfl) rfl ?_
      have L63 : ∀ (v1 : Int) (σ : Sto), isB v1 → OK σ → loopK (fun q nx63 => F_X12_laysRoutes_B63 N  nx63  q.1 q.2) N (v1, σ) = some res → At p l e rm_X12_laysRoutes s m args below meth c 0 0 g 4 (MQ below (QV g s.heap.size res) args s 0 0 (AA g s.heap.size)) 63 [(0, vr g 94), (1, vi v1)] [] σ := by
        intro v1 σ h1 ok hF
        refine loopK_ind (res := res) (P := fun (q : Int × Sto) => isB q.1 → OK q.2 → At p l e rm_X12_laysRoutes s m args below meth c 0 0 g 4 (MQ below (QV g s.heap.size res) args s 0 0 (AA g s.heap.size)) 63 [(0, vr g 94), (1, vi q.1)] [] q.2) ?_ N _ hF h1 ok
        intro nx63 q ih63 hF
        obtain ⟨v1, σ⟩ := q
        intro h1 ok
        have hF : F_X12_laysRoutes_B63 N  nx63  v1 σ = some res := hF
        unfold F_X12_laysRoutes_B63 at hF
        refine at_iload_n (pc := 63) C 1 dX12_laysRoutes_63 rfl rfl ?_
        refine at_if_eq (pc := 64) (tgt := 167) C (isB.r h1) dX12_laysRoutes_64 rfl (fun c1 => ?_) (fun c1 => ?_)
        · have hF := (if_pos c1).symm.trans hF
          obtain rfl := Option.some.inj hF
          exact at_vret (pc := 167) C hr hlk ok dX12_laysRoutes_167
        · have hF := (if_neg c1).symm.trans hF
          refine at_iconst (pc := 67) C dX12_laysRoutes_67 ?_
          refine at_istore_n (pc := 68) (lv' := [(1, vi 0), (0, vr g 94)]) C dX12_laysRoutes_68 rfl (Nat.le_of_ble_eq_true rfl) rfl ?_
          refine at_iconst (pc := 69) C dX12_laysRoutes_69 ?_
          refine at_istore_n (pc := 70) (lv' := [(2, vi 0), (1, vi 0), (0, vr g 94)]) C dX12_laysRoutes_70 rfl (Nat.le_of_ble_eq_true rfl) rfl ?_
          have L71 : ∀ (v1 : Int) (v2 : Int) (σ : Sto), isB v1 → inR v2 → OK σ → loopK (fun q nx71 => F_X12_laysRoutes_B71 N nx63 nx71  q.1 q.2.1 q.2.2) N (v1, v2, σ) = some res → At p l e rm_X12_laysRoutes s m args below meth c 0 0 g 4 (MQ below (QV g s.heap.size res) args s 0 0 (AA g s.heap.size)) 71 [(0, vr g 94), (1, vi v1), (2, vi v2)] [] σ := by
            intro v1 v2 σ h1 h2 ok hF
            refine loopK_ind (res := res) (P := fun (q : Int × Int × Sto) => isB q.1 → inR q.2.1 → OK q.2.2 → At p l e rm_X12_laysRoutes s m args below meth c 0 0 g 4 (MQ below (QV g s.heap.size res) args s 0 0 (AA g s.heap.size)) 71 [(0, vr g 94), (1, vi q.1), (2, vi q.2.1)] [] q.2.2) ?_ N _ hF h1 h2 ok
            intro nx71 q ih71 hF
            obtain ⟨v1, v2, σ⟩ := q
            intro h1 h2 ok
            have hF : F_X12_laysRoutes_B71 N nx63 nx71  v1 v2 σ = some res := hF
            unfold F_X12_laysRoutes_B71 at hF
            have J164 : ∀ (v1 : Int) (σ : Sto), isB v1 → OK σ → F_X12_laysRoutes_J164 N nx63 v1 σ = some res → At p l e rm_X12_laysRoutes s m args below meth c 0 0 g 4 (MQ below (QV g s.heap.size res) args s 0 0 (AA g s.heap.size)) 164 [(0, vr g 94), (1, vi v1)] [] σ := by
              intro v1 σ h1 ok hF
              unfold F_X12_laysRoutes_J164 at hF
              refine at_goto (pc := 164) (tgt := 63) C dX12_laysRoutes_164 rfl ?_
              exact ih63 _ hF h1 ok
            refine at_iload_n (pc := 71) C 2 dX12_laysRoutes_71 rfl rfl ?_
            refine at_aload_n (pc := 72) C 0 dX12_laysRoutes_72 rfl rfl ?_
            refine at_geti (pc := 73) (jz := 14) C fw_12_135 kd94 rfl (Nat.le_of_ble_eq_true rfl) rfl rfl dX12_laysRoutes_73 ?_
            refine at_icmp_ge (pc := 76) (tgt := 164) C h2 (ok 94 14) dX12_laysRoutes_76 rfl (fun c2 => ?_) (fun c2 => ?_)
            · have hF := (if_pos c2).symm.trans hF
              refine at_sub (lv' := [(0, vr g 94), (1, vi v1)]) [0, 1] rfl ?_
              exact J164 v1 σ h1 ok hF
            · have hF := (if_neg c2).symm.trans hF
              refine at_iconst (pc := 79) C dX12_laysRoutes_79 ?_
              refine at_istore_n (pc := 80) (lv' := [(3, vi 0), (0, vr g 94), (1, vi v1), (2, vi v2)]) C dX12_laysRoutes_80 rfl (Nat.le_of_ble_eq_true rfl) rfl ?_
              have L81 : ∀ (v1 : Int) (v2 : Int) (v3 : Int) (σ : Sto), isB v1 → inR v2 → inR v3 → OK σ → loopK (fun q nx81 => F_X12_laysRoutes_B81 N nx63 nx71 nx81 v2 q.1 q.2.1 q.2.2) N (v1, v3, σ) = some res → At p l e rm_X12_laysRoutes s m args below meth c 0 0 g 4 (MQ below (QV g s.heap.size res) args s 0 0 (AA g s.heap.size)) 81 [(0, vr g 94), (1, vi v1), (2, vi v2), (3, vi v3)] [] σ := by
                intro v1 v2 v3 σ h1 h2 h3 ok hF
                refine loopK_ind (res := res) (P := fun (q : Int × Int × Sto) => isB q.1 → inR q.2.1 → OK q.2.2 → At p l e rm_X12_laysRoutes s m args below meth c 0 0 g 4 (MQ below (QV g s.heap.size res) args s 0 0 (AA g s.heap.size)) 81 [(0, vr g 94), (1, vi q.1), (2, vi v2), (3, vi q.2.1)] [] q.2.2) ?_ N _ hF h1 h3 ok
                intro nx81 q ih81 hF
                obtain ⟨v1, v3, σ⟩ := q
                intro h1 h3 ok
                have hF : F_X12_laysRoutes_B81 N nx63 nx71 nx81 v2 v1 v3 σ = some res := hF
                unfold F_X12_laysRoutes_B81 at hF
                have J158 : ∀ (v1 : Int) (v2 : Int) (σ : Sto), isB v1 → inR v2 → OK σ → F_X12_laysRoutes_J158 N nx63 nx71 v1 v2 σ = some res → At p l e rm_X12_laysRoutes s m args below meth c 0 0 g 4 (MQ below (QV g s.heap.size res) args s 0 0 (AA g s.heap.size)) 158 [(0, vr g 94), (1, vi v1), (2, vi v2)] [] σ := by
                  intro v1 v2 σ h1 h2 ok hF
                  unfold F_X12_laysRoutes_J158 at hF
                  refine at_iinc (pc := 158) (lv' := [(2, vi (ja v2 1)), (0, vr g 94), (1, vi v1)]) C 2 dX12_laysRoutes_158 rfl (Nat.le_of_ble_eq_true rfl) rfl ?_
                  refine at_goto (pc := 161) (tgt := 71) C dX12_laysRoutes_161 rfl ?_
                  refine at_sub (lv' := [(0, vr g 94), (1, vi v1), (2, vi (ja v2 1))]) [1, 2, 0] rfl ?_
                  exact ih71 _ hF h1 (ja_R v2 1) ok
                refine at_iload_n (pc := 81) C 3 dX12_laysRoutes_81 rfl rfl ?_
                refine at_aload_n (pc := 82) C 0 dX12_laysRoutes_82 rfl rfl ?_
                refine at_geti (pc := 83) (jz := 14) C fw_12_135 kd94 rfl (Nat.le_of_ble_eq_true rfl) rfl rfl dX12_laysRoutes_83 ?_
                refine at_icmp_ge (pc := 86) (tgt := 158) C h3 (ok 94 14) dX12_laysRoutes_86 rfl (fun c3 => ?_) (fun c3 => ?_)
                · have hF := (if_pos c3).symm.trans hF
                  refine at_sub (lv' := [(0, vr g 94), (1, vi v1), (2, vi v2)]) [0, 1, 2] rfl ?_
                  exact J158 v1 v2 σ h1 h2 ok hF
                · have hF := (if_neg c3).symm.trans hF
                  have J120 : ∀ (v1 : Int) (v3 : Int) (σ : Sto), isB v1 → inR v3 → OK σ → F_X12_laysRoutes_J120 N nx63 nx71 nx81 v1 v2 v3 σ = some res → At p l e rm_X12_laysRoutes s m args below meth c 0 0 g 4 (MQ below (QV g s.heap.size res) args s 0 0 (AA g s.heap.size)) 120 [(0, vr g 94), (1, vi v1), (2, vi v2), (3, vi v3)] [] σ := by
                    intro v1 v3 σ h1 h3 ok hF
                    unfold F_X12_laysRoutes_J120 at hF
                    have J152 : ∀ (v1 : Int) (v3 : Int) (σ : Sto), isB v1 → inR v3 → OK σ → F_X12_laysRoutes_J152 N nx63 nx71 nx81 v1 v2 v3 σ = some res → At p l e rm_X12_laysRoutes s m args below meth c 0 0 g 4 (MQ below (QV g s.heap.size res) args s 0 0 (AA g s.heap.size)) 152 [(0, vr g 94), (1, vi v1), (2, vi v2), (3, vi v3)] [] σ := by
                      intro v1 v3 σ h1 h3 ok hF
                      unfold F_X12_laysRoutes_J152 at hF
                      refine at_iinc (pc := 152) (lv' := [(3, vi (ja v3 1)), (0, vr g 94), (1, vi v1), (2, vi v2)]) C 3 dX12_laysRoutes_152 rfl (Nat.le_of_ble_eq_true rfl) rfl ?_
                      refine at_goto (pc := 155) (tgt := 81) C dX12_laysRoutes_155 rfl ?_
                      refine at_sub (lv' := [(0, vr g 94), (1, vi v1), (2, vi v2), (3, vi (ja v3 1))]) [1, 2, 3, 0] rfl ?_
                      exact ih81 _ hF h1 (ja_R v3 1) ok
                    refine at_aload_n (pc := 120) C 0 dX12_laysRoutes_120 rfl rfl ?_
                    refine at_getr (pc := 121) (k' := 107) C 13 fw_12_54 kd94 rfl (Nat.le_of_ble_eq_true rfl) rfl rfl dX12_laysRoutes_121 ?_
                    refine at_bipush (pc := 124) C dX12_laysRoutes_124 (by decide) ?_
                    refine at_iload_n (pc := 126) C 2 dX12_laysRoutes_126 rfl rfl ?_
                    refine at_imul (pc := 127) C dX12_laysRoutes_127 ?_
                    refine at_iload_n (pc := 128) C 3 dX12_laysRoutes_128 rfl rfl ?_
                    refine at_iadd (pc := 129) C dX12_laysRoutes_129 ?_
                    obtain ⟨b4, hF⟩ := inb_some hF
                    refine at_iaload (pc := 130) C kd107 b4 dX12_laysRoutes_130 ?_
                    refine at_if_le (pc := 131) (tgt := 152) C (ok 107 (ja (jm 12 v2) v3)) dX12_laysRoutes_131 rfl (fun c5 => ?_) (fun c5 => ?_)
                    · have hF := (if_pos c5).symm.trans hF
                      exact J152 v1 v3 σ h1 h3 ok hF
                    · have hF := (if_neg c5).symm.trans hF
                      refine at_aload_n (pc := 134) C 0 dX12_laysRoutes_134 rfl rfl ?_
                      refine at_iload_n (pc := 135) C 3 dX12_laysRoutes_135 rfl rfl ?_
                      refine at_iload_n (pc := 136) C 2 dX12_laysRoutes_136 rfl rfl ?_
                      refine at_aload_n (pc := 137) C 0 dX12_laysRoutes_137 rfl rfl ?_
                      refine at_iload_n (pc := 138) C 2 dX12_laysRoutes_138 rfl rfl ?_
                      refine at_iload_n (pc := 139) C 3 dX12_laysRoutes_139 rfl rfl ?_
                      obtain ⟨q6, eq6, hF⟩ := bind_some' hF
                      refine at_callV (pc := 140) (ci := 12) C (c_X12_priceOf l g N v2 v3 σ q6 h2 h3 ok eq6) kv_X12_priceOf w1699 kd94 rfl rfl rfl rfl (Nat.le_of_ble_eq_true rfl) ⟨rfl, rfl, (Nat.le_of_ble_eq_true rfl), (Nat.le_of_ble_eq_true rfl)⟩ dX12_laysRoutes_140 (fun tq6 okq6 => ?_)
                      refine at_ineg (pc := 143) C dX12_laysRoutes_143 ?_
                      obtain ⟨q7, eq7, hF⟩ := bind_some' hF
                      refine at_callV (pc := 144) (ci := 12) C (c_X12_goes l g N v3 v2 (jneg q6) σ q7 h3 h2 (jneg_R q6) ok eq7) kv_X12_goes w1703 kd94 rfl rfl rfl rfl (Nat.le_of_ble_eq_true rfl) ⟨rfl, rfl, (Nat.le_of_ble_eq_true rfl), (Nat.le_of_ble_eq_true rfl)⟩ dX12_laysRoutes_144 (fun tq7 okq7 => ?_)
                      refine at_if_eq (pc := 147) (tgt := 152) C (isB.r tq7) dX12_laysRoutes_147 rfl (fun c8 => ?_) (fun c8 => ?_)
                      · have hF := (if_pos c8).symm.trans hF
                        exact J152 v1 v3 q7.2 h1 h3 okq7 hF
                      · have hF := (if_neg c8).symm.trans hF
                        refine at_iconst (pc := 150) C dX12_laysRoutes_150 ?_
                        refine at_istore_n (pc := 151) (lv' := [(1, vi 1), (0, vr g 94), (2, vi v2), (3, vi v3)]) C dX12_laysRoutes_151 rfl (Nat.le_of_ble_eq_true rfl) rfl ?_
                        refine at_sub (lv' := [(0, vr g 94), (1, vi 1), (2, vi v2), (3, vi v3)]) [1, 0, 2, 3] rfl ?_
                        exact J152 1 v3 q7.2 (Or.inr rfl) h3 okq7 hF
                  refine at_aload_n (pc := 89) C 0 dX12_laysRoutes_89 rfl rfl ?_
                  refine at_getr (pc := 90) (k' := 106) C 12 fw_12_51 kd94 rfl (Nat.le_of_ble_eq_true rfl) rfl rfl dX12_laysRoutes_90 ?_
                  refine at_bipush (pc := 93) C dX12_laysRoutes_93 (by decide) ?_
                  refine at_iload_n (pc := 95) C 2 dX12_laysRoutes_95 rfl rfl ?_
                  refine at_imul (pc := 96) C dX12_laysRoutes_96 ?_
                  refine at_iload_n (pc := 97) C 3 dX12_laysRoutes_97 rfl rfl ?_
                  refine at_iadd (pc := 98) C dX12_laysRoutes_98 ?_
                  obtain ⟨b9, hF⟩ := inb_some hF
                  refine at_iaload (pc := 99) C kd106 b9 dX12_laysRoutes_99 ?_
                  refine at_if_le (pc := 100) (tgt := 120) C (ok 106 (ja (jm 12 v2) v3)) dX12_laysRoutes_100 rfl (fun c10 => ?_) (fun c10 => ?_)
                  · have hF := (if_pos c10).symm.trans hF
                    exact J120 v1 v3 σ h1 h3 ok hF
                  · have hF := (if_neg c10).symm.trans hF
                    refine at_aload_n (pc := 103) C 0 dX12_laysRoutes_103 rfl rfl ?_
                    refine at_iload_n (pc := 104) C 2 dX12_laysRoutes_104 rfl rfl ?_
                    refine at_iload_n (pc := 105) C 3 dX12_laysRoutes_105 rfl rfl ?_
                    refine at_aload_n (pc := 106) C 0 dX12_laysRoutes_106 rfl rfl ?_
                    refine at_iload_n (pc := 107) C 2 dX12_laysRoutes_107 rfl rfl ?_
                    refine at_iload_n (pc := 108) C 3 dX12_laysRoutes_108 rfl rfl ?_
                    obtain ⟨q11, eq11, hF⟩ := bind_some' hF
                    refine at_callV (pc := 109) (ci := 12) C (c_X12_priceOf l g N v2 v3 σ q11 h2 h3 ok eq11) kv_X12_priceOf w1699 kd94 rfl rfl rfl rfl (Nat.le_of_ble_eq_true rfl) ⟨rfl, rfl, (Nat.le_of_ble_eq_true rfl), (Nat.le_of_ble_eq_true rfl)⟩ dX12_laysRoutes_109 (fun tq11 okq11 => ?_)
                    obtain ⟨q12, eq12, hF⟩ := bind_some' hF
                    refine at_callV (pc := 112) (ci := 12) C (c_X12_goes l g N v2 v3 q11 σ q12 h2 h3 tq11 ok eq12) kv_X12_goes w1703 kd94 rfl rfl rfl rfl (Nat.le_of_ble_eq_true rfl) ⟨rfl, rfl, (Nat.le_of_ble_eq_true rfl), (Nat.le_of_ble_eq_true rfl)⟩ dX12_laysRoutes_112 (fun tq12 okq12 => ?_)
                    refine at_if_eq (pc := 115) (tgt := 120) C (isB.r tq12) dX12_laysRoutes_115 rfl (fun c13 => ?_) (fun c13 => ?_)
                    · have hF := (if_pos c13).symm.trans hF
                      exact J120 v1 v3 q12.2 h1 h3 okq12 hF
                    · have hF := (if_neg c13).symm.trans hF
                      refine at_iconst (pc := 118) C dX12_laysRoutes_118 ?_
                      refine at_istore_n (pc := 119) (lv' := [(1, vi 1), (0, vr g 94), (2, vi v2), (3, vi v3)]) C dX12_laysRoutes_119 rfl (Nat.le_of_ble_eq_true rfl) rfl ?_
                      refine at_sub (lv' := [(0, vr g 94), (1, vi 1), (2, vi v2), (3, vi v3)]) [1, 0, 2, 3] rfl ?_
                      exact J120 1 v3 q12.2 (Or.inr rfl) h3 okq12 hF
              refine at_sub (lv' := [(0, vr g 94), (1, vi v1), (2, vi v2), (3, vi 0)]) [1, 2, 3, 0] rfl ?_
              exact L81 v1 v2 0 σ h1 h2 (isB.r (Or.inl rfl)) ok hF
          refine at_sub (lv' := [(0, vr g 94), (1, vi 0), (2, vi 0)]) [2, 1, 0] rfl ?_
          exact L71 0 0 σ (Or.inl rfl) (isB.r (Or.inl rfl)) ok hF
      refine at_sub (lv' := [(0, vr g 94), (1, vi 1)]) [1, 0] rfl ?_
      exact L63 1 σ (Or.inr rfl) ok hF
    refine at_iload_n (pc := 2) C 1 dX12_laysRoutes_2 rfl rfl ?_
    refine at_aload_n (pc := 3) C 0 dX12_laysRoutes_3 rfl rfl ?_
    refine at_geti (pc := 4) (jz := 14) C fw_12_135 kd94 rfl (Nat.le_of_ble_eq_true rfl) rfl rfl dX12_laysRoutes_4 ?_
    refine at_icmp_ge (pc := 7) (tgt := 61) C h1 (ok 94 14) dX12_laysRoutes_7 rfl (fun c14 => ?_) (fun c14 => ?_)
    · have hF := (if_pos c14).symm.trans hF
      refine at_sub (lv' := [(0, vr g 94)]) [0] rfl ?_
      exact J61 σ ok hF
    · have hF := (if_neg c14).symm.trans hF
      have J37 : ∀ (v1 : Int) (t1 : Int) (t2 : Int) (σ : Sto), inR v1 → inR t1 → isB t2 → OK σ → F_X12_laysRoutes_J37 N nx2 v1 t1 t2 σ = some res → At p l e rm_X12_laysRoutes s m args below meth c 0 0 g 4 (MQ below (QV g s.heap.size res) args s 0 0 (AA g s.heap.size)) 37 [(0, vr g 94), (1, vi v1)] [vi t2, vi t1, vr g 109] σ := by
        intro v1 t1 t2 σ h1 ht1 ht2 ok hF
        unfold F_X12_laysRoutes_J37 at hF
        obtain ⟨b15, hF⟩ := inb_some hF
        refine at_iastore (pc := 37) C kd109 b15 dX12_laysRoutes_37 ?_
        refine at_aload_n (pc := 38) C 0 dX12_laysRoutes_38 rfl rfl ?_
        refine at_getr (pc := 39) (k' := 108) C 14 fw_12_60 kd94 rfl (Nat.le_of_ble_eq_true rfl) rfl rfl dX12_laysRoutes_39 ?_
        refine at_iload_n (pc := 42) C 1 dX12_laysRoutes_42 rfl rfl ?_
        refine at_iconst (pc := 43) C dX12_laysRoutes_43 ?_
        obtain ⟨b16, hF⟩ := inb_some hF
        refine at_iastore (pc := 44) C kd108 b16 dX12_laysRoutes_44 ?_
        refine at_aload_n (pc := 45) C 0 dX12_laysRoutes_45 rfl rfl ?_
        refine at_getr (pc := 46) (k' := 110) C 16 fw_12_66 kd94 rfl (Nat.le_of_ble_eq_true rfl) rfl rfl dX12_laysRoutes_46 ?_
        refine at_bipush (pc := 49) C dX12_laysRoutes_49 (by decide) ?_
        refine at_iload_n (pc := 51) C 1 dX12_laysRoutes_51 rfl rfl ?_
        refine at_imul (pc := 52) C dX12_laysRoutes_52 ?_
        refine at_iload_n (pc := 53) C 1 dX12_laysRoutes_53 rfl rfl ?_
        obtain ⟨b17, hF⟩ := inb_some hF
        refine at_iastore (pc := 54) C kd110 b17 dX12_laysRoutes_54 ?_
        refine at_iinc (pc := 55) (lv' := [(1, vi (ja v1 1)), (0, vr g 94)]) C 1 dX12_laysRoutes_55 rfl (Nat.le_of_ble_eq_true rfl) rfl ?_
        refine at_goto (pc := 58) (tgt := 2) C dX12_laysRoutes_58 rfl ?_
        refine at_sub (lv' := [(0, vr g 94), (1, vi (ja v1 1))]) [1, 0] rfl ?_
        exact ih2 _ hF (ja_R v1 1) (OK_up (k := 110) (j := (jm 12 v1)) (OK_up (k := 108) (j := v1) (OK_up (k := 109) (j := t1) ok (isB.r ht2)) (isB.r (Or.inl rfl))) h1)
      have J36 : ∀ (v1 : Int) (t1 : Int) (σ : Sto), inR v1 → inR t1 → OK σ → F_X12_laysRoutes_J36 N nx2 v1 t1 σ = some res → At p l e rm_X12_laysRoutes s m args below meth c 0 0 g 4 (MQ below (QV g s.heap.size res) args s 0 0 (AA g s.heap.size)) 36 [(0, vr g 94), (1, vi v1)] [vi t1, vr g 109] σ := by
        intro v1 t1 σ h1 ht1 ok hF
        unfold F_X12_laysRoutes_J36 at hF
        refine at_iconst (pc := 36) C dX12_laysRoutes_36 ?_
        exact J37 v1 t1 0 σ h1 ht1 (Or.inl rfl) ok hF
      refine at_aload_n (pc := 10) C 0 dX12_laysRoutes_10 rfl rfl ?_
      refine at_getr (pc := 11) (k' := 109) C 15 fw_12_63 kd94 rfl (Nat.le_of_ble_eq_true rfl) rfl rfl dX12_laysRoutes_11 ?_
      refine at_iload_n (pc := 14) C 1 dX12_laysRoutes_14 rfl rfl ?_
      refine at_aload_n (pc := 15) C 0 dX12_laysRoutes_15 rfl rfl ?_
      refine at_iload_n (pc := 16) C 1 dX12_laysRoutes_16 rfl rfl ?_
      obtain ⟨q18, eq18, hF⟩ := bind_some' hF
      refine at_callV (pc := 17) (ci := 12) C (c_X12_result l g N v1 σ q18 h1 ok eq18) kv_X12_result w1585 kd94 rfl rfl rfl rfl (Nat.le_of_ble_eq_true rfl) ⟨rfl, rfl, (Nat.le_of_ble_eq_true rfl), (Nat.le_of_ble_eq_true rfl)⟩ dX12_laysRoutes_17 (fun tq18 okq18 => ?_)
      refine at_if_ge (pc := 20) (tgt := 36) C tq18 dX12_laysRoutes_20 rfl (fun c19 => ?_) (fun c19 => ?_)
      · have hF := (if_pos c19).symm.trans hF
        exact J36 v1 v1 σ h1 h1 ok hF
      · have hF := (if_neg c19).symm.trans hF
        refine at_aload_n (pc := 23) C 0 dX12_laysRoutes_23 rfl rfl ?_
        refine at_getr (pc := 24) (k' := 105) C 11 fw_12_48 kd94 rfl (Nat.le_of_ble_eq_true rfl) rfl rfl dX12_laysRoutes_24 ?_
        refine at_iload_n (pc := 27) C 1 dX12_laysRoutes_27 rfl rfl ?_
        obtain ⟨b20, hF⟩ := inb_some hF
        refine at_iaload (pc := 28) C kd105 b20 dX12_laysRoutes_28 ?_
        refine at_if_le (pc := 29) (tgt := 36) C (ok 105 v1) dX12_laysRoutes_29 rfl (fun c21 => ?_) (fun c21 => ?_)
        · have hF := (if_pos c21).symm.trans hF
          exact J36 v1 v1 σ h1 h1 ok hF
        · have hF := (if_neg c21).symm.trans hF
          refine at_iconst (pc := 32) C dX12_laysRoutes_32 ?_
          refine at_goto (pc := 33) (tgt := 37) C dX12_laysRoutes_33 rfl ?_
          exact J37 v1 v1 1 σ h1 h1 (Or.inr rfl) ok hF
  refine at_sub (lv' := [(0, vr g 94), (1, vi 0)]) [1, 0] rfl ?_
  exact L2 0 σ (isB.r (Or.inl rfl)) ok hF
abbrev rm_X12_isAhead : Room := { frames := 0, cells := 0, slots := 0, locals := 0 }
def F_X12_isAhead_J109 (N : Nat)  (v1 : Int) (v2 : Int) (v3 : Int) (σ : Sto) : Option (Int) :=
  inb (ja (jm 12 v1) v3) 156 (inb (ja (jm 12 v2) v3) 156 (if (σ.1 110 (ja (jm 12 v2) v3)) ≤ (σ.1 110 (ja (jm 12 v1) v3)) then (some 0) else (some 1)))
def F_X12_isAhead_B74 (N : Nat) (nx74 : (Int) → Option (Int)) (v1 : Int) (v2 : Int) (v3 : Int) (σ : Sto) : Option (Int) :=
  inb v1 12 (if (σ.1 109 v1) ≤ v3 then (some 0) else (inb (ja (jm 12 v1) v3) 156 (inb (ja (jm 12 v2) v3) 156 (if (σ.1 110 (ja (jm 12 v1) v3)) = (σ.1 110 (ja (jm 12 v2) v3)) then (nx74 (ja v3 1)) else (F_X12_isAhead_J109 N  v1 v2 v3 σ)))))
def F_X12_isAhead (N : Nat) (v1 : Int) (v2 : Int) (σ : Sto) : Option (Int) :=
  inb v1 12 (inb v2 12 (if (σ.1 108 v1) = (σ.1 108 v2) then (if (σ.1 109 v1) = (σ.1 109 v2) then (loopK (fun q nx74 => F_X12_isAhead_B74 N  nx74 v1 v2 q σ) N 0) else (if (σ.1 109 v2) ≤ (σ.1 109 v1) then (some 0) else (some 1))) else (if (σ.1 108 v2) ≤ (σ.1 108 v1) then (some 0) else (some 1))))
set_option maxHeartbeats 4000000 in
set_option maxRecDepth 100000 in
theorem c_X12_isAhead (l : Launch) (g : Geo) (N : Nat) (v1 : Int) (v2 : Int) (σ : Sto) (res : Int) (h1 : inR v1) (h2 : inR v2) (ok : OK σ) (hF : F_X12_isAhead N v1 v2 σ = some res) : MtI l g yX12_isAhead cX12_isAhead 4 (some .boolean) rm_X12_isAhead [vr g 94, vi v1, vi v2] σ res σ isB := by
  intro sz
  refine Met.ofAt (own := RX12) (QQ := fun z => QI g z res σ isB) (by decide +kernel) (Nat.le_of_ble_eq_true rfl) rfl ?_
  intro p e s m args below meth c C hr hlk
  show At p l e rm_X12_isAhead s m args below meth c 0 0 g 4 (MQ below (QI g s.heap.size res σ isB) args s 0 0 (AA g s.heap.size)) 0 [(0, vr g 94), (1, vi v1), (2, vi v2)] [] σ
  unfold F_X12_isAhead at hF
  refine at_aload_n (pc := 0) C 0 dX12_isAhead_0 rfl rfl ?_
  refine at_getr (pc := 1) (k' := 108) C 14 fw_12_60 kd94 rfl (Nat.le_of_ble_eq_true rfl) rfl rfl dX12_isAhead_1 ?_
  refine at_iload_n (pc := 4) C 1 dX12_isAhead_4 rfl rfl ?_
  obtain ⟨b1, hF⟩ := inb_some hF
  refine at_iaload (pc := 5) C kd108 b1 dX12_isAhead_5 ?_
  refine at_aload_n (pc := 6) C 0 dX12_isAhead_6 rfl rfl ?_
  refine at_getr (pc := 7) (k' := 108) C 14 fw_12_60 kd94 rfl (Nat.le_of_ble_eq_true rfl) rfl rfl dX12_isAhead_7 ?_
  refine at_iload_n (pc := 10) C 2 dX12_isAhead_10 rfl rfl ?_
  obtain ⟨b2, hF⟩ := inb_some hF
  refine at_iaload (pc := 11) C kd108 b2 dX12_isAhead_11 ?_
  refine at_icmp_eq (pc := 12) (tgt := 36) C (ok 108 v1) (ok 108 v2) dX12_isAhead_12 rfl (fun c3 => ?_) (fun c3 => ?_)
  · have hF := (if_pos c3).symm.trans hF
    refine at_aload_n (pc := 36) C 0 dX12_isAhead_36 rfl rfl ?_
    refine at_getr (pc := 37) (k' := 109) C 15 fw_12_63 kd94 rfl (Nat.le_of_ble_eq_true rfl) rfl rfl dX12_isAhead_37 ?_
    refine at_iload_n (pc := 40) C 1 dX12_isAhead_40 rfl rfl ?_
    refine at_iaload (pc := 41) C kd109 b1 dX12_isAhead_41 ?_
    refine at_aload_n (pc := 42) C 0 dX12_isAhead_42 rfl rfl ?_
    refine at_getr (pc := 43) (k' := 109) C 15 fw_12_63 kd94 rfl (Nat.le_of_ble_eq_true rfl) rfl rfl dX12_isAhead_43 ?_
    refine at_iload_n (pc := 46) C 2 dX12_isAhead_46 rfl rfl ?_
    refine at_iaload (pc := 47) C kd109 b2 dX12_isAhead_47 ?_
    refine at_icmp_eq (pc := 48) (tgt := 72) C (ok 109 v1) (ok 109 v2) dX12_isAhead_48 rfl (fun c4 => ?_) (fun c4 => ?_)
    · have hF := (if_pos c4).symm.trans hF
      refine at_iconst (pc := 72) C dX12_isAhead_72 ?_
      refine at_istore_n (pc := 73) (lv' := [(3, vi 0), (0, vr g 94), (1, vi v1), (2, vi v2)]) C dX12_isAhead_73 rfl (Nat.le_of_ble_eq_true rfl) rfl ?_
      have L74 : ∀ (v1 : Int) (v2 : Int) (v3 : Int), inR v1 → inR v2 → inR v3 → loopK (fun q nx74 => F_X12_isAhead_B74 N  nx74 v1 v2 q σ) N v3 = some res → At p l e rm_X12_isAhead s m args below meth c 0 0 g 4 (MQ below (QI g s.heap.size res σ isB) args s 0 0 (AA g s.heap.size)) 74 [(0, vr g 94), (1, vi v1), (2, vi v2), (3, vi v3)] [] σ := by
        intro v1 v2 v3 h1 h2 h3 hF
        refine loopK_ind (res := res) (P := fun (q : Int) => inR q → At p l e rm_X12_isAhead s m args below meth c 0 0 g 4 (MQ below (QI g s.heap.size res σ isB) args s 0 0 (AA g s.heap.size)) 74 [(0, vr g 94), (1, vi v1), (2, vi v2), (3, vi q)] [] σ) ?_ N _ hF h3
        intro nx74 v3 ih74 hF h3
        have hF : F_X12_isAhead_B74 N  nx74 v1 v2 v3 σ = some res := hF
        unfold F_X12_isAhead_B74 at hF
        refine at_iload_n (pc := 74) C 3 dX12_isAhead_74 rfl rfl ?_
        refine at_aload_n (pc := 75) C 0 dX12_isAhead_75 rfl rfl ?_
        refine at_getr (pc := 76) (k' := 109) C 15 fw_12_63 kd94 rfl (Nat.le_of_ble_eq_true rfl) rfl rfl dX12_isAhead_76 ?_
        refine at_iload_n (pc := 79) C 1 dX12_isAhead_79 rfl rfl ?_
        obtain ⟨b5, hF⟩ := inb_some hF
        refine at_iaload (pc := 80) C kd109 b5 dX12_isAhead_80 ?_
        refine at_icmp_ge (pc := 81) (tgt := 146) C h3 (ok 109 v1) dX12_isAhead_81 rfl (fun c6 => ?_) (fun c6 => ?_)
        · have hF := (if_pos c6).symm.trans hF
          refine at_iconst (pc := 146) C dX12_isAhead_146 ?_
          obtain rfl := Option.some.inj hF
          exact at_zret (pc := 147) C hr hlk (Or.inl rfl) ok dX12_isAhead_147
        · have hF := (if_neg c6).symm.trans hF
          have J109 : ∀ (v1 : Int) (v2 : Int) (v3 : Int), inR v1 → inR v2 → inR v3 → F_X12_isAhead_J109 N  v1 v2 v3 σ = some res → At p l e rm_X12_isAhead s m args below meth c 0 0 g 4 (MQ below (QI g s.heap.size res σ isB) args s 0 0 (AA g s.heap.size)) 109 [(0, vr g 94), (1, vi v1), (2, vi v2), (3, vi v3)] [] σ := by
            intro v1 v2 v3 h1 h2 h3 hF
            unfold F_X12_isAhead_J109 at hF
            refine at_aload_n (pc := 109) C 0 dX12_isAhead_109 rfl rfl ?_
            refine at_getr (pc := 110) (k' := 110) C 16 fw_12_66 kd94 rfl (Nat.le_of_ble_eq_true rfl) rfl rfl dX12_isAhead_110 ?_
            refine at_bipush (pc := 113) C dX12_isAhead_113 (by decide) ?_
            refine at_iload_n (pc := 115) C 1 dX12_isAhead_115 rfl rfl ?_
            refine at_imul (pc := 116) C dX12_isAhead_116 ?_
            refine at_iload_n (pc := 117) C 3 dX12_isAhead_117 rfl rfl ?_
            refine at_iadd (pc := 118) C dX12_isAhead_118 ?_
            obtain ⟨b7, hF⟩ := inb_some hF
            refine at_iaload (pc := 119) C kd110 b7 dX12_isAhead_119 ?_
            refine at_aload_n (pc := 120) C 0 dX12_isAhead_120 rfl rfl ?_
            refine at_getr (pc := 121) (k' := 110) C 16 fw_12_66 kd94 rfl (Nat.le_of_ble_eq_true rfl) rfl rfl dX12_isAhead_121 ?_
            refine at_bipush (pc := 124) C dX12_isAhead_124 (by decide) ?_
            refine at_iload_n (pc := 126) C 2 dX12_isAhead_126 rfl rfl ?_
            refine at_imul (pc := 127) C dX12_isAhead_127 ?_
            refine at_iload_n (pc := 128) C 3 dX12_isAhead_128 rfl rfl ?_
            refine at_iadd (pc := 129) C dX12_isAhead_129 ?_
            obtain ⟨b8, hF⟩ := inb_some hF
            refine at_iaload (pc := 130) C kd110 b8 dX12_isAhead_130 ?_
            refine at_icmp_ge (pc := 131) (tgt := 138) C (ok 110 (ja (jm 12 v1) v3)) (ok 110 (ja (jm 12 v2) v3)) dX12_isAhead_131 rfl (fun c9 => ?_) (fun c9 => ?_)
            · have hF := (if_pos c9).symm.trans hF
              refine at_iconst (pc := 138) C dX12_isAhead_138 ?_
              obtain rfl := Option.some.inj hF
              exact at_zret (pc := 139) C hr hlk (Or.inl rfl) ok dX12_isAhead_139
            · have hF := (if_neg c9).symm.trans hF
              refine at_iconst (pc := 134) C dX12_isAhead_134 ?_
              refine at_goto (pc := 135) (tgt := 139) C dX12_isAhead_135 rfl ?_
              obtain rfl := Option.some.inj hF
              exact at_zret (pc := 139) C hr hlk (Or.inr rfl) ok dX12_isAhead_139
          refine at_aload_n (pc := 84) C 0 dX12_isAhead_84 rfl rfl ?_
          refine at_getr (pc := 85) (k' := 110) C 16 fw_12_66 kd94 rfl (Nat.le_of_ble_eq_true rfl) rfl rfl dX12_isAhead_85 ?_
          refine at_bipush (pc := 88) C dX12_isAhead_88 (by decide) ?_
          refine at_iload_n (pc := 90) C 1 dX12_isAhead_90 rfl rfl ?_
          refine at_imul (pc := 91) C dX12_isAhead_91 ?_
          refine at_iload_n (pc := 92) C 3 dX12_isAhead_92 rfl rfl ?_
          refine at_iadd (pc := 93) C dX12_isAhead_93 ?_
          obtain ⟨b10, hF⟩ := inb_some hF
          refine at_iaload (pc := 94) C kd110 b10 dX12_isAhead_94 ?_
          refine at_aload_n (pc := 95) C 0 dX12_isAhead_95 rfl rfl ?_
          refine at_getr (pc := 96) (k' := 110) C 16 fw_12_66 kd94 rfl (Nat.le_of_ble_eq_true rfl) rfl rfl dX12_isAhead_96 ?_
          refine at_bipush (pc := 99) C dX12_isAhead_99 (by decide) ?_
          refine at_iload_n (pc := 101) C 2 dX12_isAhead_101 rfl rfl ?_
          refine at_imul (pc := 102) C dX12_isAhead_102 ?_
          refine at_iload_n (pc := 103) C 3 dX12_isAhead_103 rfl rfl ?_
          refine at_iadd (pc := 104) C dX12_isAhead_104 ?_
          obtain ⟨b11, hF⟩ := inb_some hF
          refine at_iaload (pc := 105) C kd110 b11 dX12_isAhead_105 ?_
          refine at_icmp_eq (pc := 106) (tgt := 140) C (ok 110 (ja (jm 12 v1) v3)) (ok 110 (ja (jm 12 v2) v3)) dX12_isAhead_106 rfl (fun c12 => ?_) (fun c12 => ?_)
          · have hF := (if_pos c12).symm.trans hF
            refine at_iinc (pc := 140) (lv' := [(3, vi (ja v3 1)), (0, vr g 94), (1, vi v1), (2, vi v2)]) C 3 dX12_isAhead_140 rfl (Nat.le_of_ble_eq_true rfl) rfl ?_
            refine at_goto (pc := 143) (tgt := 74) C dX12_isAhead_143 rfl ?_
            refine at_sub (lv' := [(0, vr g 94), (1, vi v1), (2, vi v2), (3, vi (ja v3 1))]) [1, 2, 3, 0] rfl ?_
            exact ih74 _ hF (ja_R v3 1)
          · have hF := (if_neg c12).symm.trans hF
            exact J109 v1 v2 v3 h1 h2 h3 hF
      refine at_sub (lv' := [(0, vr g 94), (1, vi v1), (2, vi v2), (3, vi 0)]) [1, 2, 3, 0] rfl ?_
      exact L74 v1 v2 0 h1 h2 (isB.r (Or.inl rfl)) hF
    · have hF := (if_neg c4).symm.trans hF
      refine at_aload_n (pc := 51) C 0 dX12_isAhead_51 rfl rfl ?_
      refine at_getr (pc := 52) (k' := 109) C 15 fw_12_63 kd94 rfl (Nat.le_of_ble_eq_true rfl) rfl rfl dX12_isAhead_52 ?_
      refine at_iload_n (pc := 55) C 1 dX12_isAhead_55 rfl rfl ?_
      refine at_iaload (pc := 56) C kd109 b1 dX12_isAhead_56 ?_
      refine at_aload_n (pc := 57) C 0 dX12_isAhead_57 rfl rfl ?_
      refine at_getr (pc := 58) (k' := 109) C 15 fw_12_63 kd94 rfl (Nat.le_of_ble_eq_true rfl) rfl rfl dX12_isAhead_58 ?_
      refine at_iload_n (pc := 61) C 2 dX12_isAhead_61 rfl rfl ?_
      refine at_iaload (pc := 62) C kd109 b2 dX12_isAhead_62 ?_
      refine at_icmp_ge (pc := 63) (tgt := 70) C (ok 109 v1) (ok 109 v2) dX12_isAhead_63 rfl (fun c13 => ?_) (fun c13 => ?_)
      · have hF := (if_pos c13).symm.trans hF
        refine at_iconst (pc := 70) C dX12_isAhead_70 ?_
        obtain rfl := Option.some.inj hF
        exact at_zret (pc := 71) C hr hlk (Or.inl rfl) ok dX12_isAhead_71
      · have hF := (if_neg c13).symm.trans hF
        refine at_iconst (pc := 66) C dX12_isAhead_66 ?_
        refine at_goto (pc := 67) (tgt := 71) C dX12_isAhead_67 rfl ?_
        obtain rfl := Option.some.inj hF
        exact at_zret (pc := 71) C hr hlk (Or.inr rfl) ok dX12_isAhead_71
  · have hF := (if_neg c3).symm.trans hF
    refine at_aload_n (pc := 15) C 0 dX12_isAhead_15 rfl rfl ?_
    refine at_getr (pc := 16) (k' := 108) C 14 fw_12_60 kd94 rfl (Nat.le_of_ble_eq_true rfl) rfl rfl dX12_isAhead_16 ?_
    refine at_iload_n (pc := 19) C 1 dX12_isAhead_19 rfl rfl ?_
    refine at_iaload (pc := 20) C kd108 b1 dX12_isAhead_20 ?_
    refine at_aload_n (pc := 21) C 0 dX12_isAhead_21 rfl rfl ?_
    refine at_getr (pc := 22) (k' := 108) C 14 fw_12_60 kd94 rfl (Nat.le_of_ble_eq_true rfl) rfl rfl dX12_isAhead_22 ?_
    refine at_iload_n (pc := 25) C 2 dX12_isAhead_25 rfl rfl ?_
    refine at_iaload (pc := 26) C kd108 b2 dX12_isAhead_26 ?_
    refine at_icmp_ge (pc := 27) (tgt := 34) C (ok 108 v1) (ok 108 v2) dX12_isAhead_27 rfl (fun c14 => ?_) (fun c14 => ?_)
    · have hF := (if_pos c14).symm.trans hF
      refine at_iconst (pc := 34) C dX12_isAhead_34 ?_
      obtain rfl := Option.some.inj hF
      exact at_zret (pc := 35) C hr hlk (Or.inl rfl) ok dX12_isAhead_35
    · have hF := (if_neg c14).symm.trans hF
      refine at_iconst (pc := 30) C dX12_isAhead_30 ?_
      refine at_goto (pc := 31) (tgt := 35) C dX12_isAhead_31 rfl ?_
      obtain rfl := Option.some.inj hF
      exact at_zret (pc := 35) C hr hlk (Or.inr rfl) ok dX12_isAhead_35
abbrev rm_X12_bestEnd : Room := { frames := 2, cells := 0, slots := 0, locals := 42 }
def F_X12_bestEnd_J56 (N : Nat) (nx4 : (Int × Int) → Option (Int)) (v1 : Int) (v2 : Int) (σ : Sto) : Option (Int) :=
  nx4 (v1, (ja v2 1))
def F_X12_bestEnd_J54 (N : Nat) (nx4 : (Int × Int) → Option (Int)) (v2 : Int) (σ : Sto) : Option (Int) :=
  F_X12_bestEnd_J56 N nx4 v2 v2 σ
def F_X12_bestEnd_B4 (N : Nat) (nx4 : (Int × Int) → Option (Int))  (v1 : Int) (v2 : Int) (σ : Sto) : Option (Int) :=
  if (σ.1 94 14) ≤ v2 then (some v1) else ((F_X12_result N v2 σ).bind (fun q2 => if q2 ≤ 0 then (F_X12_bestEnd_J56 N nx4 v1 v2 σ) else (inb v2 12 (if (σ.1 105 v2) = 0 then (F_X12_bestEnd_J56 N nx4 v1 v2 σ) else (if (σ.1 109 v2) = 0 then (F_X12_bestEnd_J56 N nx4 v1 v2 σ) else (if v1 < 0 then (F_X12_bestEnd_J54 N nx4 v2 σ) else ((F_X12_isAhead N v2 v1 σ).bind (fun q8 => if q8 = 0 then (F_X12_bestEnd_J56 N nx4 v1 v2 σ) else (F_X12_bestEnd_J54 N nx4 v2 σ)))))))))
def F_X12_bestEnd (N : Nat)  (σ : Sto) : Option (Int) :=
  loopK (fun q nx4 => F_X12_bestEnd_B4 N  nx4  q.1 q.2 σ) N ((-1), 0)
set_option maxHeartbeats 4000000 in
set_option maxRecDepth 100000 in
theorem c_X12_bestEnd (l : Launch) (g : Geo) (N : Nat)  (σ : Sto) (res : Int)  (ok : OK σ) (hF : F_X12_bestEnd N  σ = some res) : MtI l g yX12_bestEnd cX12_bestEnd 3 (some .int) rm_X12_bestEnd [vr g 94] σ res σ inR := by
  intro sz
  refine Met.ofAt (own := RX12) (QQ := fun z => QI g z res σ inR) (by decide +kernel) (Nat.le_of_ble_eq_true rfl) rfl ?_
  intro p e s m args below meth c C hr hlk
  show At p l e rm_X12_bestEnd s m args below meth c 0 0 g 3 (MQ below (QI g s.heap.size res σ inR) args s 0 0 (AA g s.heap.size)) 0 [(0, vr g 94)] [] σ
  unfold F_X12_bestEnd at hF
  refine at_iconst (pc := 0) C dX12_bestEnd_0 ?_
  refine at_istore_n (pc := 1) (lv' := [(1, vi (-1)), (0, vr g 94)]) C dX12_bestEnd_1 rfl (Nat.le_of_ble_eq_true rfl) rfl ?_
  refine at_iconst (pc := 2) C dX12_bestEnd_2 ?_
  refine at_istore_n (pc := 3) (lv' := [(2, vi 0), (1, vi (-1)), (0, vr g 94)]) C dX12_bestEnd_3 rfl (Nat.le_of_ble_eq_true rfl) rfl ?_
  have L4 : ∀ (v1 : Int) (v2 : Int), inR v1 → inR v2 → loopK (fun q nx4 => F_X12_bestEnd_B4 N  nx4  q.1 q.2 σ) N (v1, v2) = some res → At p l e rm_X12_bestEnd s m args below meth c 0 0 g 3 (MQ below (QI g s.heap.size res σ inR) args s 0 0 (AA g s.heap.size)) 4 [(0, vr g 94), (1, vi v1), (2, vi v2)] [] σ := by
    intro v1 v2 h1 h2 hF
    refine loopK_ind (res := res) (P := fun (q : Int × Int) => inR q.1 → inR q.2 → At p l e rm_X12_bestEnd s m args below meth c 0 0 g 3 (MQ below (QI g s.heap.size res σ inR) args s 0 0 (AA g s.heap.size)) 4 [(0, vr g 94), (1, vi q.1), (2, vi q.2)] [] σ) ?_ N _ hF h1 h2
    intro nx4 q ih4 hF
    obtain ⟨v1, v2⟩ := q
    intro h1 h2
    have hF : F_X12_bestEnd_B4 N  nx4  v1 v2 σ = some res := hF
    unfold F_X12_bestEnd_B4 at hF
    refine at_iload_n (pc := 4) C 2 dX12_bestEnd_4 rfl rfl ?_
    refine at_aload_n (pc := 5) C 0 dX12_bestEnd_5 rfl rfl ?_
    refine at_geti (pc := 6) (jz := 14) C fw_12_135 kd94 rfl (Nat.le_of_ble_eq_true rfl) rfl rfl dX12_bestEnd_6 ?_
    refine at_icmp_ge (pc := 9) (tgt := 62) C h2 (ok 94 14) dX12_bestEnd_9 rfl (fun c1 => ?_) (fun c1 => ?_)
    · have hF := (if_pos c1).symm.trans hF
      refine at_iload_n (pc := 62) C 1 dX12_bestEnd_62 rfl rfl ?_
      obtain rfl := Option.some.inj hF
      exact at_iret (pc := 63) C hr hlk h1 ok dX12_bestEnd_63
    · have hF := (if_neg c1).symm.trans hF
      have J56 : ∀ (v1 : Int) (v2 : Int), inR v1 → inR v2 → F_X12_bestEnd_J56 N nx4 v1 v2 σ = some res → At p l e rm_X12_bestEnd s m args below meth c 0 0 g 3 (MQ below (QI g s.heap.size res σ inR) args s 0 0 (AA g s.heap.size)) 56 [(0, vr g 94), (1, vi v1), (2, vi v2)] [] σ := by
        intro v1 v2 h1 h2 hF
        unfold F_X12_bestEnd_J56 at hF
        refine at_iinc (pc := 56) (lv' := [(2, vi (ja v2 1)), (0, vr g 94), (1, vi v1)]) C 2 dX12_bestEnd_56 rfl (Nat.le_of_ble_eq_true rfl) rfl ?_
        refine at_goto (pc := 59) (tgt := 4) C dX12_bestEnd_59 rfl ?_
        refine at_sub (lv' := [(0, vr g 94), (1, vi v1), (2, vi (ja v2 1))]) [1, 2, 0] rfl ?_
        exact ih4 _ hF h1 (ja_R v2 1)
      refine at_aload_n (pc := 12) C 0 dX12_bestEnd_12 rfl rfl ?_
      refine at_iload_n (pc := 13) C 2 dX12_bestEnd_13 rfl rfl ?_
      obtain ⟨q2, eq2, hF⟩ := bind_some' hF
      refine at_callV (pc := 14) (ci := 12) C (c_X12_result l g N v2 σ q2 h2 ok eq2) kv_X12_result w1585 kd94 rfl rfl rfl rfl (Nat.le_of_ble_eq_true rfl) ⟨rfl, rfl, (Nat.le_of_ble_eq_true rfl), (Nat.le_of_ble_eq_true rfl)⟩ dX12_bestEnd_14 (fun tq2 okq2 => ?_)
      refine at_if_le (pc := 17) (tgt := 56) C tq2 dX12_bestEnd_17 rfl (fun c3 => ?_) (fun c3 => ?_)
      · have hF := (if_pos c3).symm.trans hF
        exact J56 v1 v2 h1 h2 hF
      · have hF := (if_neg c3).symm.trans hF
        refine at_aload_n (pc := 20) C 0 dX12_bestEnd_20 rfl rfl ?_
        refine at_getr (pc := 21) (k' := 105) C 11 fw_12_48 kd94 rfl (Nat.le_of_ble_eq_true rfl) rfl rfl dX12_bestEnd_21 ?_
        refine at_iload_n (pc := 24) C 2 dX12_bestEnd_24 rfl rfl ?_
        obtain ⟨b4, hF⟩ := inb_some hF
        refine at_iaload (pc := 25) C kd105 b4 dX12_bestEnd_25 ?_
        refine at_if_eq (pc := 26) (tgt := 56) C (ok 105 v2) dX12_bestEnd_26 rfl (fun c5 => ?_) (fun c5 => ?_)
        · have hF := (if_pos c5).symm.trans hF
          exact J56 v1 v2 h1 h2 hF
        · have hF := (if_neg c5).symm.trans hF
          refine at_aload_n (pc := 29) C 0 dX12_bestEnd_29 rfl rfl ?_
          refine at_getr (pc := 30) (k' := 109) C 15 fw_12_63 kd94 rfl (Nat.le_of_ble_eq_true rfl) rfl rfl dX12_bestEnd_30 ?_
          refine at_iload_n (pc := 33) C 2 dX12_bestEnd_33 rfl rfl ?_
          refine at_iaload (pc := 34) C kd109 b4 dX12_bestEnd_34 ?_
          refine at_if_ne (pc := 35) (tgt := 41) C (ok 109 v2) dX12_bestEnd_35 rfl (fun c6 => ?_) (fun c6 => ?_)
          · have hF := (if_neg c6).symm.trans hF
            have J54 : ∀ (v2 : Int), inR v2 → F_X12_bestEnd_J54 N nx4 v2 σ = some res → At p l e rm_X12_bestEnd s m args below meth c 0 0 g 3 (MQ below (QI g s.heap.size res σ inR) args s 0 0 (AA g s.heap.size)) 54 [(0, vr g 94), (2, vi v2)] [] σ := by
              intro v2 h2 hF
              unfold F_X12_bestEnd_J54 at hF
              refine at_iload_n (pc := 54) C 1 dX12_bestEnd_54 rfl rfl ?_
              refine at_istore_n (pc := 55) (lv' := [(1, vi v2), (0, vr g 94), (2, vi v2)]) C dX12_bestEnd_55 rfl (Nat.le_of_ble_eq_true rfl) rfl ?_
              refine at_sub (lv' := [(0, vr g 94), (1, vi v2), (2, vi v2)]) [1, 0, 2] rfl ?_
              exact J56 v2 v2 h2 h2 hF
            refine at_iload_n (pc := 41) C 1 dX12_bestEnd_41 rfl rfl ?_
            refine at_if_lt (pc := 42) (tgt := 54) C h1 dX12_bestEnd_42 rfl (fun c7 => ?_) (fun c7 => ?_)
            · have hF := (if_pos c7).symm.trans hF
              refine at_sub (lv' := [(0, vr g 94), (2, vi v2)]) [0, 2] rfl ?_
              exact J54 v2 h2 hF
            · have hF := (if_neg c7).symm.trans hF
              refine at_aload_n (pc := 45) C 0 dX12_bestEnd_45 rfl rfl ?_
              refine at_iload_n (pc := 46) C 2 dX12_bestEnd_46 rfl rfl ?_
              refine at_iload_n (pc := 47) C 1 dX12_bestEnd_47 rfl rfl ?_
              obtain ⟨q8, eq8, hF⟩ := bind_some' hF
              refine at_callV (pc := 48) (ci := 12) C (c_X12_isAhead l g N v2 v1 σ q8 h2 h1 ok eq8) kv_X12_isAhead w1715 kd94 rfl rfl rfl rfl (Nat.le_of_ble_eq_true rfl) ⟨rfl, rfl, (Nat.le_of_ble_eq_true rfl), (Nat.le_of_ble_eq_true rfl)⟩ dX12_bestEnd_48 (fun tq8 okq8 => ?_)
              refine at_if_eq (pc := 51) (tgt := 56) C (isB.r tq8) dX12_bestEnd_51 rfl (fun c9 => ?_) (fun c9 => ?_)
              · have hF := (if_pos c9).symm.trans hF
                exact J56 v1 v2 h1 h2 hF
              · have hF := (if_neg c9).symm.trans hF
                refine at_sub (lv' := [(0, vr g 94), (2, vi v2)]) [0, 2] rfl ?_
                exact J54 v2 h2 hF
          · have hF := (if_pos c6).symm.trans hF
            refine at_goto (pc := 38) (tgt := 56) C dX12_bestEnd_38 rfl ?_
            exact J56 v1 v2 h1 h2 hF
  refine at_sub (lv' := [(0, vr g 94), (1, vi (-1)), (2, vi 0)]) [2, 1, 0] rfl ?_
  exact L4 (-1) 0 (show inR (-1) from ⟨by decide, by decide⟩) (isB.r (Or.inl rfl)) hF
abbrev rm_X12_relieves : Room := { frames := 4, cells := 0, slots := 0, locals := 90 }
def F_X12_relieves_J315 (N : Nat) (nx29 : (Int × Sto) → Option (Int × Sto)) (v1 : Int) (v2 : Int) (v3 : Int) (v4 : Int) (σ : Sto) : Option (Int × Sto) :=
  inb v3 12 (inb v2 12 (nx29 ((ja v1 v4), (upI (upI (upI σ 105 v3 (js (σ.1 105 v3) v4)) 105 v2 (js ((upI σ 105 v3 (js (σ.1 105 v3) v4)).1 105 v2) v4)) 94 37 (ja ((upI (upI σ 105 v3 (js (σ.1 105 v3) v4)) 105 v2 (js ((upI σ 105 v3 (js (σ.1 105 v3) v4)).1 105 v2) v4)).1 94 37) 1)))))
def F_X12_relieves_J283 (N : Nat) (nx29 : (Int × Sto) → Option (Int × Sto)) (nx195 : (Int × Sto) → Option (Int × Sto)) (v1 : Int) (v2 : Int) (v3 : Int) (v4 : Int) (v5 : Int) (v8 : Int) (t0 : Int) (σ : Sto) : Option (Int × Sto) :=
  inb v8 144 (nx195 ((ja v5 1), (upI (upI σ 107 v8 (ja (σ.1 107 v8) t0)) 106 v8 (js ((upI σ 107 v8 (ja (σ.1 107 v8) t0)).1 106 v8) t0))))
def F_X12_relieves_J264 (N : Nat) (nx29 : (Int × Sto) → Option (Int × Sto)) (nx195 : (Int × Sto) → Option (Int × Sto)) (v1 : Int) (v2 : Int) (v3 : Int) (v4 : Int) (v5 : Int) (v6 : Int) (t0 : Int) (σ : Sto) : Option (Int × Sto) :=
  (F_X12_result N v6 σ).bind (fun q9 => if 0 ≤ q9 then (F_X12_relieves_J283 N nx29 nx195 v1 v2 v3 v4 v5 t0 (jneg v4) σ) else (F_X12_relieves_J283 N nx29 nx195 v1 v2 v3 v4 v5 t0 v4 σ))
def F_X12_relieves_B195 (N : Nat) (nx29 : (Int × Sto) → Option (Int × Sto)) (nx195 : (Int × Sto) → Option (Int × Sto)) (v1 : Int) (v2 : Int) (v3 : Int) (v4 : Int) (v5 : Int) (σ : Sto) : Option (Int × Sto) :=
  inb v2 12 (if (σ.1 109 v2) ≤ v5 then (F_X12_relieves_J315 N nx29 v1 v2 v3 v4 σ) else (inb (js (ja (jm 12 v2) v5) 1) 156 (inb (ja (jm 12 v2) v5) 156 ((F_X12_result N (σ.1 110 (js (ja (jm 12 v2) v5) 1)) σ).bind (fun q13 => if 0 ≤ q13 then (F_X12_relieves_J264 N nx29 nx195 v1 v2 v3 v4 v5 (σ.1 110 (js (ja (jm 12 v2) v5) 1)) (ja (jm 12 (σ.1 110 (ja (jm 12 v2) v5))) (σ.1 110 (js (ja (jm 12 v2) v5) 1))) σ) else (F_X12_relieves_J264 N nx29 nx195 v1 v2 v3 v4 v5 (σ.1 110 (js (ja (jm 12 v2) v5) 1)) (ja (jm 12 (σ.1 110 (js (ja (jm 12 v2) v5) 1))) (σ.1 110 (ja (jm 12 v2) v5))) σ))))))
def F_X12_relieves_J192 (N : Nat) (nx29 : (Int × Sto) → Option (Int × Sto)) (v1 : Int) (v2 : Int) (v3 : Int) (v4 : Int) (σ : Sto) : Option (Int × Sto) :=
  loopK (fun q nx195 => F_X12_relieves_B195 N nx29 nx195 v1 v2 v3 v4 q.1 q.2) N (1, σ)
def F_X12_relieves_J184 (N : Nat) (nx29 : (Int × Sto) → Option (Int × Sto)) (nx89 : (Int × Int) → Option (Int × Sto)) (v1 : Int) (v2 : Int) (v3 : Int) (v5 : Int) (t0 : Int) (σ : Sto) : Option (Int × Sto) :=
  nx89 (t0, (ja v5 1))
def F_X12_relieves_J168 (N : Nat) (nx29 : (Int × Sto) → Option (Int × Sto)) (nx89 : (Int × Int) → Option (Int × Sto)) (v1 : Int) (v2 : Int) (v3 : Int) (v4 : Int) (v5 : Int) (t0 : Int) (σ : Sto) : Option (Int × Sto) :=
  if v4 ≤ t0 then (F_X12_relieves_J184 N nx29 nx89 v1 v2 v3 v5 v4 σ) else (F_X12_relieves_J184 N nx29 nx89 v1 v2 v3 v5 t0 σ)
def F_X12_relieves_B89 (N : Nat) (nx29 : (Int × Sto) → Option (Int × Sto)) (nx89 : (Int × Int) → Option (Int × Sto)) (v1 : Int) (v2 : Int) (v3 : Int) (v4 : Int) (v5 : Int) (σ : Sto) : Option (Int × Sto) :=
  inb v2 12 (if (σ.1 109 v2) ≤ v5 then (F_X12_relieves_J192 N nx29 v1 v2 v3 v4 σ) else (inb (js (ja (jm 12 v2) v5) 1) 156 (inb (ja (jm 12 v2) v5) 156 ((F_X12_result N (σ.1 110 (js (ja (jm 12 v2) v5) 1)) σ).bind (fun q20 => if 0 ≤ q20 then (inb (ja (jm 12 (σ.1 110 (ja (jm 12 v2) v5))) (σ.1 110 (js (ja (jm 12 v2) v5) 1))) 144 (F_X12_relieves_J168 N nx29 nx89 v1 v2 v3 v4 v5 (σ.1 107 (ja (jm 12 (σ.1 110 (ja (jm 12 v2) v5))) (σ.1 110 (js (ja (jm 12 v2) v5) 1)))) σ)) else (inb (ja (jm 12 (σ.1 110 (js (ja (jm 12 v2) v5) 1))) (σ.1 110 (ja (jm 12 v2) v5))) 144 (F_X12_relieves_J168 N nx29 nx89 v1 v2 v3 v4 v5 (σ.1 106 (ja (jm 12 (σ.1 110 (js (ja (jm 12 v2) v5) 1))) (σ.1 110 (ja (jm 12 v2) v5)))) σ)))))))
def F_X12_relieves_J84 (N : Nat) (nx29 : (Int × Sto) → Option (Int × Sto)) (v1 : Int) (v2 : Int) (v3 : Int) (t0 : Int) (σ : Sto) : Option (Int × Sto) :=
  loopK (fun q nx89 => F_X12_relieves_B89 N nx29 nx89 v1 v2 v3 q.1 q.2 σ) N (t0, 1)
def F_X12_relieves_B29 (N : Nat) (nx29 : (Int × Sto) → Option (Int × Sto))  (v1 : Int) (σ : Sto) : Option (Int × Sto) :=
  (F_X12_laysRoutes N σ).bind (fun q1 => (F_X12_bestEnd N q1).bind (fun q2 => if 0 ≤ q2 then (inb (jm 12 q2) 156 (inb (q1.1 110 (jm 12 q2)) 12 (inb q2 12 (if (q1.1 105 q2) ≤ (q1.1 105 (q1.1 110 (jm 12 q2))) then (F_X12_relieves_J84 N nx29 v1 q2 (q1.1 110 (jm 12 q2)) (q1.1 105 q2) q1) else (F_X12_relieves_J84 N nx29 v1 q2 (q1.1 110 (jm 12 q2)) (q1.1 105 (q1.1 110 (jm 12 q2))) q1))))) else (some (v1, q1))))
def F_X12_relieves_J22 (N : Nat)   (σ : Sto) : Option (Int × Sto) :=
  loopK (fun q nx29 => F_X12_relieves_B29 N  nx29  q.1 q.2) N (0, (upI σ 94 37 0))
def F_X12_relieves_B2 (N : Nat) (nx2 : (Int × Sto) → Option (Int × Sto))  (v1 : Int) (σ : Sto) : Option (Int × Sto) :=
  if 144 ≤ v1 then (F_X12_relieves_J22 N   σ) else (inb v1 144 (nx2 ((ja v1 1), (upI σ 107 v1 0))))
def F_X12_relieves (N : Nat)  (σ : Sto) : Option (Int × Sto) :=
  loopK (fun q nx2 => F_X12_relieves_B2 N  nx2  q.1 q.2) N (0, σ)
set_option maxHeartbeats 4000000 in
set_option maxRecDepth 100000 in
theorem c_X12_relieves (l : Launch) (g : Geo) (N : Nat)  (σ : Sto) (res : Int × Sto)  (ok : OK σ) (hF : F_X12_relieves N  σ = some res) : MtI l g yX12_relieves cX12_relieves 10 (some .int) rm_X12_relieves [vr g 94] σ res.1 res.2 inR := by
  intro sz
  refine Met.ofAt (own := RX12) (QQ := fun z => QI g z res.1 res.2 inR) (by decide +kernel) (Nat.le_of_ble_eq_true rfl) rfl ?_
  intro p e s m args below meth c C hr hlk
  show At p l e rm_X12_relieves s m args below meth c 0 0 g 10 (MQ below (QI g s.heap.size res.1 res.2 inR) args s 0 0 (AA g s.heap.size)) 0 [(0, vr g 94)] [] σ
  unfold F_X12_relieves at hF
  refine at_iconst (pc := 0) C dX12_relieves_0 ?_
  refine at_istore_n (pc := 1) (lv' := [(1, vi 0), (0, vr g 94)]) C dX12_relieves_1 rfl (Nat.le_of_ble_eq_true rfl) rfl ?_
  have L2 : ∀ (v1 : Int) (σ : Sto), inR v1 → OK σ → loopK (fun q nx2 => F_X12_relieves_B2 N  nx2  q.1 q.2) N (v1, σ) = some res → At p l e rm_X12_relieves s m args below meth c 0 0 g 10 (MQ below (QI g s.heap.size res.1 res.2 inR) args s 0 0 (AA g s.heap.size)) 2 [(0, vr g 94), (1, vi v1)] [] σ := by
    intro v1 σ h1 ok hF
    refine loopK_ind (res := res) (P := fun (q : Int × Sto) => inR q.1 → OK q.2 → At p l e rm_X12_relieves s m args below meth c 0 0 g 10 (MQ below (QI g s.heap.size res.1 res.2 inR) args s 0 0 (AA g s.heap.size)) 2 [(0, vr g 94), (1, vi q.1)] [] q.2) ?_ N _ hF h1 ok
    intro nx2 q ih2 hF
    obtain ⟨v1, σ⟩ := q
    intro h1 ok
    have hF : F_X12_relieves_B2 N  nx2  v1 σ = some res := hF
    unfold F_X12_relieves_B2 at hF
    have J22 : ∀  (σ : Sto), OK σ → F_X12_relieves_J22 N   σ = some res → At p l e rm_X12_relieves s m args below meth c 0 0 g 10 (MQ below (QI g s.heap.size res.1 res.2 inR) args s 0 0 (AA g s.heap.size)) 22 [(0, vr g 94)] [] σ := by
      intro σ ok hF
      unfold F_X12_relieves_J22 at hF
      refine at_aload_n (pc := 22) C 0 dX12_relieves_22 rfl rfl ?_
      refine at_iconst (pc := 23) C dX12_relieves_23 ?_
      refine at_puti (pc := 24) (jz := 37) C fu_12_289 kd94 rfl (Nat.le_of_ble_eq_true rfl) rfl rfl dX12_relieves_24 ?_
      refine at_iconst (pc := 27) C dX12_relieves_27 ?_
      refine at_istore_n (pc := 28) (lv' := [(1, vi 0), (0, vr g 94)]) C dX12_relieves_28 rfl (Nat.le_of_ble_eq_true rfl) rfl ?_
      have L29 : ∀ (v1 : Int) (σ : Sto), inR v1 → OK σ → loopK (fun q nx29 => F_X12_relieves_B29 N  nx29  q.1 q.2) N (v1, σ) = some res → At p l e rm_X12_relieves s m args below meth c 0 0 g 10 (MQ below (QI g s.heap.size res.1 res.2 inR) args s 0 0 (AA g s.heap.size)) 29 [(0, vr g 94), (1, vi v1)] [] σ := by
        intro v1 σ h1 ok hF
        refine loopK_ind (res := res) (P := fun (q : Int × Sto) => inR q.1 → OK q.2 → At p l e rm_X12_relieves s m args below meth c 0 0 g 10 (MQ below (QI g s.heap.size res.1 res.2 inR) args s 0 0 (AA g s.heap.size)) 29 [(0, vr g 94), (1, vi q.1)] [] q.2) ?_ N _ hF h1 ok
        intro nx29 q ih29 hF
        obtain ⟨v1, σ⟩ := q
        intro h1 ok
        have hF : F_X12_relieves_B29 N  nx29  v1 σ = some res := hF
        unfold F_X12_relieves_B29 at hF
        refine at_aload_n (pc := 29) C 0 dX12_relieves_29 rfl rfl ?_
        obtain ⟨q1, eq1, hF⟩ := bind_some' hF
        refine at_callVv (pc := 30) (ci := 12) C (c_X12_laysRoutes l g N  σ q1  ok eq1) kv_X12_laysRoutes w1695 kd94 rfl rfl rfl rfl (Nat.le_of_ble_eq_true rfl) ⟨rfl, rfl, (Nat.le_of_ble_eq_true rfl), (Nat.le_of_ble_eq_true rfl)⟩ dX12_relieves_30 (fun okq1 => ?_)
        refine at_aload_n (pc := 33) C 0 dX12_relieves_33 rfl rfl ?_
        obtain ⟨q2, eq2, hF⟩ := bind_some' hF
        refine at_callV (pc := 34) (ci := 12) C (c_X12_bestEnd l g N  q1 q2  okq1 eq2) kv_X12_bestEnd w1711 kd94 rfl rfl rfl rfl (Nat.le_of_ble_eq_true rfl) ⟨rfl, rfl, (Nat.le_of_ble_eq_true rfl), (Nat.le_of_ble_eq_true rfl)⟩ dX12_relieves_34 (fun tq2 okq2 => ?_)
        refine at_istore_n (pc := 37) (lv' := [(2, vi q2), (0, vr g 94), (1, vi v1)]) C dX12_relieves_37 rfl (Nat.le_of_ble_eq_true rfl) rfl ?_
        refine at_iload_n (pc := 38) C 0 dX12_relieves_38 rfl rfl ?_
        refine at_if_ge (pc := 39) (tgt := 44) C tq2 dX12_relieves_39 rfl (fun c3 => ?_) (fun c3 => ?_)
        · have hF := (if_pos c3).symm.trans hF
          have J84 : ∀ (v1 : Int) (v2 : Int) (v3 : Int) (t0 : Int) (σ : Sto), inR v1 → inR v2 → inR v3 → inR t0 → OK σ → F_X12_relieves_J84 N nx29 v1 v2 v3 t0 σ = some res → At p l e rm_X12_relieves s m args below meth c 0 0 g 10 (MQ below (QI g s.heap.size res.1 res.2 inR) args s 0 0 (AA g s.heap.size)) 84 [(0, vr g 94), (1, vi v1), (2, vi v2), (3, vi v3)] [vi t0] σ := by
            intro v1 v2 v3 t0 σ h1 h2 h3 ht0 ok hF
            unfold F_X12_relieves_J84 at hF
            refine at_istore (pc := 84) (lv' := [(4, vi t0), (0, vr g 94), (1, vi v1), (2, vi v2), (3, vi v3)]) C dX12_relieves_84 (Nat.le_of_ble_eq_true rfl) rfl ?_
            refine at_iconst (pc := 86) C dX12_relieves_86 ?_
            refine at_istore (pc := 87) (lv' := [(5, vi 1), (4, vi t0), (0, vr g 94), (1, vi v1), (2, vi v2), (3, vi v3)]) C dX12_relieves_87 (Nat.le_of_ble_eq_true rfl) rfl ?_
            have L89 : ∀ (v1 : Int) (v2 : Int) (v3 : Int) (v4 : Int) (v5 : Int) (σ : Sto), inR v1 → inR v2 → inR v3 → inR v4 → inR v5 → OK σ → loopK (fun q nx89 => F_X12_relieves_B89 N nx29 nx89 v1 v2 v3 q.1 q.2 σ) N (v4, v5) = some res → At p l e rm_X12_relieves s m args below meth c 0 0 g 10 (MQ below (QI g s.heap.size res.1 res.2 inR) args s 0 0 (AA g s.heap.size)) 89 [(0, vr g 94), (1, vi v1), (2, vi v2), (3, vi v3), (4, vi v4), (5, vi v5)] [] σ := by
              intro v1 v2 v3 v4 v5 σ h1 h2 h3 h4 h5 ok hF
              refine loopK_ind (res := res) (P := fun (q : Int × Int) => inR q.1 → inR q.2 → At p l e rm_X12_relieves s m args below meth c 0 0 g 10 (MQ below (QI g s.heap.size res.1 res.2 inR) args s 0 0 (AA g s.heap.size)) 89 [(0, vr g 94), (1, vi v1), (2, vi v2), (3, vi v3), (4, vi q.1), (5, vi q.2)] [] σ) ?_ N _ hF h4 h5
              intro nx89 q ih89 hF
              obtain ⟨v4, v5⟩ := q
              intro h4 h5
              have hF : F_X12_relieves_B89 N nx29 nx89 v1 v2 v3 v4 v5 σ = some res := hF
              unfold F_X12_relieves_B89 at hF
              have J192 : ∀ (v1 : Int) (v2 : Int) (v3 : Int) (v4 : Int) (σ : Sto), inR v1 → inR v2 → inR v3 → inR v4 → OK σ → F_X12_relieves_J192 N nx29 v1 v2 v3 v4 σ = some res → At p l e rm_X12_relieves s m args below meth c 0 0 g 10 (MQ below (QI g s.heap.size res.1 res.2 inR) args s 0 0 (AA g s.heap.size)) 192 [(0, vr g 94), (1, vi v1), (2, vi v2), (3, vi v3), (4, vi v4)] [] σ := by
                intro v1 v2 v3 v4 σ h1 h2 h3 h4 ok hF
                unfold F_X12_relieves_J192 at hF
                refine at_iconst (pc := 192) C dX12_relieves_192 ?_
                refine at_istore (pc := 193) (lv' := [(5, vi 1), (0, vr g 94), (1, vi v1), (2, vi v2), (3, vi v3), (4, vi v4)]) C dX12_relieves_193 (Nat.le_of_ble_eq_true rfl) rfl ?_
                have L195 : ∀ (v1 : Int) (v2 : Int) (v3 : Int) (v4 : Int) (v5 : Int) (σ : Sto), inR v1 → inR v2 → inR v3 → inR v4 → inR v5 → OK σ → loopK (fun q nx195 => F_X12_relieves_B195 N nx29 nx195 v1 v2 v3 v4 q.1 q.2) N (v5, σ) = some res → At p l e rm_X12_relieves s m args below meth c 0 0 g 10 (MQ below (QI g s.heap.size res.1 res.2 inR) args s 0 0 (AA g s.heap.size)) 195 [(0, vr g 94), (1, vi v1), (2, vi v2), (3, vi v3), (4, vi v4), (5, vi v5)] [] σ := by
                  intro v1 v2 v3 v4 v5 σ h1 h2 h3 h4 h5 ok hF
                  refine loopK_ind (res := res) (P := fun (q : Int × Sto) => inR q.1 → OK q.2 → At p l e rm_X12_relieves s m args below meth c 0 0 g 10 (MQ below (QI g s.heap.size res.1 res.2 inR) args s 0 0 (AA g s.heap.size)) 195 [(0, vr g 94), (1, vi v1), (2, vi v2), (3, vi v3), (4, vi v4), (5, vi q.1)] [] q.2) ?_ N _ hF h5 ok
                  intro nx195 q ih195 hF
                  obtain ⟨v5, σ⟩ := q
                  intro h5 ok
                  have hF : F_X12_relieves_B195 N nx29 nx195 v1 v2 v3 v4 v5 σ = some res := hF
                  unfold F_X12_relieves_B195 at hF
                  have J315 : ∀ (v1 : Int) (v2 : Int) (v3 : Int) (v4 : Int) (σ : Sto), inR v1 → inR v2 → inR v3 → inR v4 → OK σ → F_X12_relieves_J315 N nx29 v1 v2 v3 v4 σ = some res → At p l e rm_X12_relieves s m args below meth c 0 0 g 10 (MQ below (QI g s.heap.size res.1 res.2 inR) args s 0 0 (AA g s.heap.size)) 315 [(0, vr g 94), (1, vi v1), (2, vi v2), (3, vi v3), (4, vi v4)] [] σ := by
                    intro v1 v2 v3 v4 σ h1 h2 h3 h4 ok hF
                    unfold F_X12_relieves_J315 at hF
                    refine at_aload_n (pc := 315) C 0 dX12_relieves_315 rfl rfl ?_
                    refine at_getr (pc := 316) (k' := 105) C 11 fw_12_48 kd94 rfl (Nat.le_of_ble_eq_true rfl) rfl rfl dX12_relieves_316 ?_
                    refine at_iload_n (pc := 319) C 3 dX12_relieves_319 rfl rfl ?_
                    refine at_dup2 (pc := 320) C dX12_relieves_320 rfl rfl ?_
                    obtain ⟨b4, hF⟩ := inb_some hF
                    refine at_iaload (pc := 321) C kd105 b4 dX12_relieves_321 ?_
                    refine at_iload (pc := 322) C 4 dX12_relieves_322 rfl ?_
                    refine at_isub (pc := 324) C dX12_relieves_324 ?_
                    refine at_iastore (pc := 325) C kd105 b4 dX12_relieves_325 ?_
                    refine at_aload_n (pc := 326) C 0 dX12_relieves_326 rfl rfl ?_
                    refine at_getr (pc := 327) (k' := 105) C 11 fw_12_48 kd94 rfl (Nat.le_of_ble_eq_true rfl) rfl rfl dX12_relieves_327 ?_
                    refine at_iload_n (pc := 330) C 2 dX12_relieves_330 rfl rfl ?_
                    refine at_dup2 (pc := 331) C dX12_relieves_331 rfl rfl ?_
                    obtain ⟨b5, hF⟩ := inb_some hF
                    refine at_iaload (pc := 332) C kd105 b5 dX12_relieves_332 ?_
                    refine at_iload (pc := 333) C 4 dX12_relieves_333 rfl ?_
                    refine at_isub (pc := 335) C dX12_relieves_335 ?_
                    refine at_iastore (pc := 336) C kd105 b5 dX12_relieves_336 ?_
                    refine at_iload_n (pc := 337) C 1 dX12_relieves_337 rfl rfl ?_
                    refine at_iload (pc := 338) C 4 dX12_relieves_338 rfl ?_
                    refine at_iadd (pc := 340) C dX12_relieves_340 ?_
                    refine at_istore_n (pc := 341) (lv' := [(1, vi (ja v1 v4)), (0, vr g 94), (2, vi v2), (3, vi v3), (4, vi v4)]) C dX12_relieves_341 rfl (Nat.le_of_ble_eq_true rfl) rfl ?_
                    refine at_aload_n (pc := 342) C 1 dX12_relieves_342 rfl rfl ?_
                    refine at_dup (pc := 343) C dX12_relieves_343 rfl ?_
                    refine at_geti (pc := 344) (jz := 37) C fw_12_289 kd94 rfl (Nat.le_of_ble_eq_true rfl) rfl rfl dX12_relieves_344 ?_
                    refine at_iconst (pc := 347) C dX12_relieves_347 ?_
                    refine at_iadd (pc := 348) C dX12_relieves_348 ?_
                    refine at_puti (pc := 349) (jz := 37) C fu_12_289 kd94 rfl (Nat.le_of_ble_eq_true rfl) rfl rfl dX12_relieves_349 ?_
                    refine at_goto (pc := 352) (tgt := 29) C dX12_relieves_352 rfl ?_
                    refine at_sub (lv' := [(0, vr g 94), (1, vi (ja v1 v4))]) [1, 0] rfl ?_
                    exact ih29 _ hF (ja_R v1 v4) (OK_up (k := 94) (j := 37) (OK_up (k := 105) (j := v2) (OK_up (k := 105) (j := v3) ok (js_R (σ.1 105 v3) v4)) (js_R ((upI σ 105 v3 (js (σ.1 105 v3) v4)).1 105 v2) v4)) (ja_R ((upI (upI σ 105 v3 (js (σ.1 105 v3) v4)) 105 v2 (js ((upI σ 105 v3 (js (σ.1 105 v3) v4)).1 105 v2) v4)).1 94 37) 1))
                  refine at_iload (pc := 195) C 5 dX12_relieves_195 rfl ?_
                  refine at_aload_n (pc := 197) C 0 dX12_relieves_197 rfl rfl ?_
                  refine at_getr (pc := 198) (k' := 109) C 15 fw_12_63 kd94 rfl (Nat.le_of_ble_eq_true rfl) rfl rfl dX12_relieves_198 ?_
                  refine at_iload_n (pc := 201) C 2 dX12_relieves_201 rfl rfl ?_
                  obtain ⟨b6, hF⟩ := inb_some hF
                  refine at_iaload (pc := 202) C kd109 b6 dX12_relieves_202 ?_
                  refine at_icmp_ge (pc := 203) (tgt := 315) C h5 (ok 109 v2) dX12_relieves_203 rfl (fun c7 => ?_) (fun c7 => ?_)
                  · have hF := (if_pos c7).symm.trans hF
                    refine at_sub (lv' := [(0, vr g 94), (1, vi v1), (2, vi v2), (3, vi v3), (4, vi v4)]) [0, 1, 2, 3, 4] rfl ?_
                    exact J315 v1 v2 v3 v4 σ h1 h2 h3 h4 ok hF
                  · have hF := (if_neg c7).symm.trans hF
                    have J264 : ∀ (v5 : Int) (v6 : Int) (t0 : Int) (σ : Sto), inR v5 → inR v6 → inR t0 → OK σ → F_X12_relieves_J264 N nx29 nx195 v1 v2 v3 v4 v5 v6 t0 σ = some res → At p l e rm_X12_relieves s m args below meth c 0 0 g 10 (MQ below (QI g s.heap.size res.1 res.2 inR) args s 0 0 (AA g s.heap.size)) 264 [(0, vr g 94), (1, vi v1), (2, vi v2), (3, vi v3), (4, vi v4), (5, vi v5), (6, vi v6)] [vi t0] σ := by
                      intro v5 v6 t0 σ h5 h6 ht0 ok hF
                      unfold F_X12_relieves_J264 at hF
                      have J283 : ∀ (v5 : Int) (v8 : Int) (t0 : Int) (σ : Sto), inR v5 → inR v8 → inR t0 → OK σ → F_X12_relieves_J283 N nx29 nx195 v1 v2 v3 v4 v5 v8 t0 σ = some res → At p l e rm_X12_relieves s m args below meth c 0 0 g 10 (MQ below (QI g s.heap.size res.1 res.2 inR) args s 0 0 (AA g s.heap.size)) 283 [(0, vr g 94), (1, vi v1), (2, vi v2), (3, vi v3), (4, vi v4), (5, vi v5), (8, vi v8)] [vi t0] σ := by
                        intro v5 v8 t0 σ h5 h8 ht0 ok hF
                        unfold F_X12_relieves_J283 at hF
                        refine at_istore (pc := 283) (lv' := [(9, vi t0), (0, vr g 94), (1, vi v1), (2, vi v2), (3, vi v3), (4, vi v4), (5, vi v5), (8, vi v8)]) C dX12_relieves_283 (Nat.le_of_ble_eq_true rfl) rfl ?_
                        refine at_aload_n (pc := 285) C 1 dX12_relieves_285 rfl rfl ?_
                        refine at_getr (pc := 286) (k' := 107) C 13 fw_12_54 kd94 rfl (Nat.le_of_ble_eq_true rfl) rfl rfl dX12_relieves_286 ?_
                        refine at_iload (pc := 289) C 7 dX12_relieves_289 rfl ?_
                        refine at_dup2 (pc := 291) C dX12_relieves_291 rfl rfl ?_
                        obtain ⟨b8, hF⟩ := inb_some hF
                        refine at_iaload (pc := 292) C kd107 b8 dX12_relieves_292 ?_
                        refine at_iload (pc := 293) C 0 dX12_relieves_293 rfl ?_
                        refine at_iadd (pc := 295) C dX12_relieves_295 ?_
                        refine at_iastore (pc := 296) C kd107 b8 dX12_relieves_296 ?_
                        refine at_aload_n (pc := 297) C 1 dX12_relieves_297 rfl rfl ?_
                        refine at_getr (pc := 298) (k' := 106) C 12 fw_12_51 kd94 rfl (Nat.le_of_ble_eq_true rfl) rfl rfl dX12_relieves_298 ?_
                        refine at_iload (pc := 301) C 7 dX12_relieves_301 rfl ?_
                        refine at_dup2 (pc := 303) C dX12_relieves_303 rfl rfl ?_
                        refine at_iaload (pc := 304) C kd106 b8 dX12_relieves_304 ?_
                        refine at_iload (pc := 305) C 0 dX12_relieves_305 rfl ?_
                        refine at_isub (pc := 307) C dX12_relieves_307 ?_
                        refine at_iastore (pc := 308) C kd106 b8 dX12_relieves_308 ?_
                        refine at_iinc (pc := 309) (lv' := [(5, vi (ja v5 1)), (9, vi t0), (0, vr g 94), (1, vi v1), (2, vi v2), (3, vi v3), (4, vi v4), (8, vi v8)]) C 6 dX12_relieves_309 rfl (Nat.le_of_ble_eq_true rfl) rfl ?_
                        refine at_goto (pc := 312) (tgt := 195) C dX12_relieves_312 rfl ?_
                        refine at_sub (lv' := [(0, vr g 94), (1, vi v1), (2, vi v2), (3, vi v3), (4, vi v4), (5, vi (ja v5 1))]) [2, 3, 4, 5, 6, 0] rfl ?_
                        exact ih195 _ hF (ja_R v5 1) (OK_up (k := 106) (j := v8) (OK_up (k := 107) (j := v8) ok (ja_R (σ.1 107 v8) t0)) (js_R ((upI σ 107 v8 (ja (σ.1 107 v8) t0)).1 106 v8) t0))
                      refine at_istore (pc := 264) (lv' := [(8, vi t0), (0, vr g 94), (1, vi v1), (2, vi v2), (3, vi v3), (4, vi v4), (5, vi v5), (6, vi v6)]) C dX12_relieves_264 (Nat.le_of_ble_eq_true rfl) rfl ?_
                      refine at_aload_n (pc := 266) C 1 dX12_relieves_266 rfl rfl ?_
                      refine at_iload (pc := 267) C 7 dX12_relieves_267 rfl ?_
                      obtain ⟨q9, eq9, hF⟩ := bind_some' hF
                      refine at_callV (pc := 269) (ci := 12) C (c_X12_result l g N v6 σ q9 h6 ok eq9) kv_X12_result w1585 kd94 rfl rfl rfl rfl (Nat.le_of_ble_eq_true rfl) ⟨rfl, rfl, (Nat.le_of_ble_eq_true rfl), (Nat.le_of_ble_eq_true rfl)⟩ dX12_relieves_269 (fun tq9 okq9 => ?_)
                      refine at_if_ge (pc := 272) (tgt := 280) C tq9 dX12_relieves_272 rfl (fun c10 => ?_) (fun c10 => ?_)
                      · have hF := (if_pos c10).symm.trans hF
                        refine at_iload (pc := 280) C 5 dX12_relieves_280 rfl ?_
                        refine at_ineg (pc := 282) C dX12_relieves_282 ?_
                        refine at_sub (lv' := [(0, vr g 94), (1, vi v1), (2, vi v2), (3, vi v3), (4, vi v4), (5, vi v5), (8, vi t0)]) [1, 2, 3, 4, 5, 6, 0] rfl ?_
                        exact J283 v5 t0 (jneg v4) σ h5 ht0 (jneg_R v4) ok hF
                      · have hF := (if_neg c10).symm.trans hF
                        refine at_iload (pc := 275) C 5 dX12_relieves_275 rfl ?_
                        refine at_goto (pc := 277) (tgt := 283) C dX12_relieves_277 rfl ?_
                        refine at_sub (lv' := [(0, vr g 94), (1, vi v1), (2, vi v2), (3, vi v3), (4, vi v4), (5, vi v5), (8, vi t0)]) [1, 2, 3, 4, 5, 6, 0] rfl ?_
                        exact J283 v5 t0 v4 σ h5 ht0 h4 ok hF
                    refine at_aload_n (pc := 206) C 0 dX12_relieves_206 rfl rfl ?_
                    refine at_getr (pc := 207) (k' := 110) C 16 fw_12_66 kd94 rfl (Nat.le_of_ble_eq_true rfl) rfl rfl dX12_relieves_207 ?_
                    refine at_bipush (pc := 210) C dX12_relieves_210 (by decide) ?_
                    refine at_iload_n (pc := 212) C 2 dX12_relieves_212 rfl rfl ?_
                    refine at_imul (pc := 213) C dX12_relieves_213 ?_
                    refine at_iload (pc := 214) C 5 dX12_relieves_214 rfl ?_
                    refine at_iadd (pc := 216) C dX12_relieves_216 ?_
                    refine at_iconst (pc := 217) C dX12_relieves_217 ?_
                    refine at_isub (pc := 218) C dX12_relieves_218 ?_
                    obtain ⟨b11, hF⟩ := inb_some hF
                    refine at_iaload (pc := 219) C kd110 b11 dX12_relieves_219 ?_
                    refine at_istore (pc := 220) (lv' := [(6, vi (σ.1 110 (js (ja (jm 12 v2) v5) 1))), (0, vr g 94), (1, vi v1), (2, vi v2), (3, vi v3), (4, vi v4), (5, vi v5)]) C dX12_relieves_220 (Nat.le_of_ble_eq_true rfl) rfl ?_
                    refine at_aload_n (pc := 222) C 1 dX12_relieves_222 rfl rfl ?_
                    refine at_getr (pc := 223) (k' := 110) C 16 fw_12_66 kd94 rfl (Nat.le_of_ble_eq_true rfl) rfl rfl dX12_relieves_223 ?_
                    refine at_bipush (pc := 226) C dX12_relieves_226 (by decide) ?_
                    refine at_iload_n (pc := 228) C 3 dX12_relieves_228 rfl rfl ?_
                    refine at_imul (pc := 229) C dX12_relieves_229 ?_
                    refine at_iload (pc := 230) C 6 dX12_relieves_230 rfl ?_
                    refine at_iadd (pc := 232) C dX12_relieves_232 ?_
                    obtain ⟨b12, hF⟩ := inb_some hF
                    refine at_iaload (pc := 233) C kd110 b12 dX12_relieves_233 ?_
                    refine at_istore (pc := 234) (lv' := [(7, vi (σ.1 110 (ja (jm 12 v2) v5))), (6, vi (σ.1 110 (js (ja (jm 12 v2) v5) 1))), (0, vr g 94), (1, vi v1), (2, vi v2), (3, vi v3), (4, vi v4), (5, vi v5)]) C dX12_relieves_234 (Nat.le_of_ble_eq_true rfl) rfl ?_
                    refine at_aload_n (pc := 236) C 2 dX12_relieves_236 rfl rfl ?_
                    refine at_iload (pc := 237) C 1 dX12_relieves_237 rfl ?_
                    obtain ⟨q13, eq13, hF⟩ := bind_some' hF
                    refine at_callV (pc := 239) (ci := 12) C (c_X12_result l g N (σ.1 110 (js (ja (jm 12 v2) v5) 1)) σ q13 (ok 110 (js (ja (jm 12 v2) v5) 1)) ok eq13) kv_X12_result w1585 kd94 rfl rfl rfl rfl (Nat.le_of_ble_eq_true rfl) ⟨rfl, rfl, (Nat.le_of_ble_eq_true rfl), (Nat.le_of_ble_eq_true rfl)⟩ dX12_relieves_239 (fun tq13 okq13 => ?_)
                    refine at_if_ge (pc := 242) (tgt := 256) C tq13 dX12_relieves_242 rfl (fun c14 => ?_) (fun c14 => ?_)
                    · have hF := (if_pos c14).symm.trans hF
                      refine at_bipush (pc := 256) C dX12_relieves_256 (by decide) ?_
                      refine at_iload (pc := 258) C 0 dX12_relieves_258 rfl ?_
                      refine at_imul (pc := 260) C dX12_relieves_260 ?_
                      refine at_iload (pc := 261) C 1 dX12_relieves_261 rfl ?_
                      refine at_iadd (pc := 263) C dX12_relieves_263 ?_
                      refine at_sub (lv' := [(0, vr g 94), (1, vi v1), (2, vi v2), (3, vi v3), (4, vi v4), (5, vi v5), (6, vi (σ.1 110 (js (ja (jm 12 v2) v5) 1)))]) [2, 3, 4, 5, 6, 7, 1] rfl ?_
                      exact J264 v5 (σ.1 110 (js (ja (jm 12 v2) v5) 1)) (ja (jm 12 (σ.1 110 (ja (jm 12 v2) v5))) (σ.1 110 (js (ja (jm 12 v2) v5) 1))) σ h5 (ok 110 (js (ja (jm 12 v2) v5) 1)) (ja_R (jm 12 (σ.1 110 (ja (jm 12 v2) v5))) (σ.1 110 (js (ja (jm 12 v2) v5) 1))) ok hF
                    · have hF := (if_neg c14).symm.trans hF
                      refine at_bipush (pc := 245) C dX12_relieves_245 (by decide) ?_
                      refine at_iload (pc := 247) C 1 dX12_relieves_247 rfl ?_
                      refine at_imul (pc := 249) C dX12_relieves_249 ?_
                      refine at_iload (pc := 250) C 0 dX12_relieves_250 rfl ?_
                      refine at_iadd (pc := 252) C dX12_relieves_252 ?_
                      refine at_goto (pc := 253) (tgt := 264) C dX12_relieves_253 rfl ?_
                      refine at_sub (lv' := [(0, vr g 94), (1, vi v1), (2, vi v2), (3, vi v3), (4, vi v4), (5, vi v5), (6, vi (σ.1 110 (js (ja (jm 12 v2) v5) 1)))]) [2, 3, 4, 5, 6, 7, 1] rfl ?_
                      exact J264 v5 (σ.1 110 (js (ja (jm 12 v2) v5) 1)) (ja (jm 12 (σ.1 110 (js (ja (jm 12 v2) v5) 1))) (σ.1 110 (ja (jm 12 v2) v5))) σ h5 (ok 110 (js (ja (jm 12 v2) v5) 1)) (ja_R (jm 12 (σ.1 110 (js (ja (jm 12 v2) v5) 1))) (σ.1 110 (ja (jm 12 v2) v5))) ok hF
                refine at_sub (lv' := [(0, vr g 94), (1, vi v1), (2, vi v2), (3, vi v3), (4, vi v4), (5, vi 1)]) [1, 2, 3, 4, 5, 0] rfl ?_
                exact L195 v1 v2 v3 v4 1 σ h1 h2 h3 h4 (isB.r (Or.inr rfl)) ok hF
              refine at_iload (pc := 89) C 5 dX12_relieves_89 rfl ?_
              refine at_aload_n (pc := 91) C 0 dX12_relieves_91 rfl rfl ?_
              refine at_getr (pc := 92) (k' := 109) C 15 fw_12_63 kd94 rfl (Nat.le_of_ble_eq_true rfl) rfl rfl dX12_relieves_92 ?_
              refine at_iload_n (pc := 95) C 2 dX12_relieves_95 rfl rfl ?_
              obtain ⟨b15, hF⟩ := inb_some hF
              refine at_iaload (pc := 96) C kd109 b15 dX12_relieves_96 ?_
              refine at_icmp_ge (pc := 97) (tgt := 192) C h5 (ok 109 v2) dX12_relieves_97 rfl (fun c16 => ?_) (fun c16 => ?_)
              · have hF := (if_pos c16).symm.trans hF
                refine at_sub (lv' := [(0, vr g 94), (1, vi v1), (2, vi v2), (3, vi v3), (4, vi v4)]) [0, 1, 2, 3, 4] rfl ?_
                exact J192 v1 v2 v3 v4 σ h1 h2 h3 h4 ok hF
              · have hF := (if_neg c16).symm.trans hF
                have J168 : ∀ (v4 : Int) (v5 : Int) (t0 : Int), inR v4 → inR v5 → inR t0 → F_X12_relieves_J168 N nx29 nx89 v1 v2 v3 v4 v5 t0 σ = some res → At p l e rm_X12_relieves s m args below meth c 0 0 g 10 (MQ below (QI g s.heap.size res.1 res.2 inR) args s 0 0 (AA g s.heap.size)) 168 [(0, vr g 94), (1, vi v1), (2, vi v2), (3, vi v3), (4, vi v4), (5, vi v5)] [vi t0] σ := by
                  intro v4 v5 t0 h4 h5 ht0 hF
                  unfold F_X12_relieves_J168 at hF
                  have J184 : ∀ (v5 : Int) (t0 : Int), inR v5 → inR t0 → F_X12_relieves_J184 N nx29 nx89 v1 v2 v3 v5 t0 σ = some res → At p l e rm_X12_relieves s m args below meth c 0 0 g 10 (MQ below (QI g s.heap.size res.1 res.2 inR) args s 0 0 (AA g s.heap.size)) 184 [(0, vr g 94), (1, vi v1), (2, vi v2), (3, vi v3), (5, vi v5)] [vi t0] σ := by
                    intro v5 t0 h5 ht0 hF
                    unfold F_X12_relieves_J184 at hF
                    refine at_istore (pc := 184) (lv' := [(4, vi t0), (0, vr g 94), (1, vi v1), (2, vi v2), (3, vi v3), (5, vi v5)]) C dX12_relieves_184 (Nat.le_of_ble_eq_true rfl) rfl ?_
                    refine at_iinc (pc := 186) (lv' := [(5, vi (ja v5 1)), (4, vi t0), (0, vr g 94), (1, vi v1), (2, vi v2), (3, vi v3)]) C 5 dX12_relieves_186 rfl (Nat.le_of_ble_eq_true rfl) rfl ?_
                    refine at_goto (pc := 189) (tgt := 89) C dX12_relieves_189 rfl ?_
                    refine at_sub (lv' := [(0, vr g 94), (1, vi v1), (2, vi v2), (3, vi v3), (4, vi t0), (5, vi (ja v5 1))]) [2, 3, 4, 5, 1, 0] rfl ?_
                    exact ih89 _ hF ht0 (ja_R v5 1)
                  refine at_istore (pc := 168) (lv' := [(8, vi t0), (0, vr g 94), (1, vi v1), (2, vi v2), (3, vi v3), (4, vi v4), (5, vi v5)]) C dX12_relieves_168 (Nat.le_of_ble_eq_true rfl) rfl ?_
                  refine at_iload (pc := 170) C 0 dX12_relieves_170 rfl ?_
                  refine at_iload (pc := 172) C 5 dX12_relieves_172 rfl ?_
                  refine at_icmp_ge (pc := 174) (tgt := 182) C ht0 h4 dX12_relieves_174 rfl (fun c17 => ?_) (fun c17 => ?_)
                  · have hF := (if_pos c17).symm.trans hF
                    refine at_iload (pc := 182) C 5 dX12_relieves_182 rfl ?_
                    refine at_sub (lv' := [(0, vr g 94), (1, vi v1), (2, vi v2), (3, vi v3), (5, vi v5)]) [1, 2, 3, 4, 6] rfl ?_
                    exact J184 v5 v4 h5 h4 hF
                  · have hF := (if_neg c17).symm.trans hF
                    refine at_iload (pc := 177) C 0 dX12_relieves_177 rfl ?_
                    refine at_goto (pc := 179) (tgt := 184) C dX12_relieves_179 rfl ?_
                    refine at_sub (lv' := [(0, vr g 94), (1, vi v1), (2, vi v2), (3, vi v3), (5, vi v5)]) [1, 2, 3, 4, 6] rfl ?_
                    exact J184 v5 t0 h5 ht0 hF
                refine at_aload_n (pc := 100) C 0 dX12_relieves_100 rfl rfl ?_
                refine at_getr (pc := 101) (k' := 110) C 16 fw_12_66 kd94 rfl (Nat.le_of_ble_eq_true rfl) rfl rfl dX12_relieves_101 ?_
                refine at_bipush (pc := 104) C dX12_relieves_104 (by decide) ?_
                refine at_iload_n (pc := 106) C 2 dX12_relieves_106 rfl rfl ?_
                refine at_imul (pc := 107) C dX12_relieves_107 ?_
                refine at_iload (pc := 108) C 5 dX12_relieves_108 rfl ?_
                refine at_iadd (pc := 110) C dX12_relieves_110 ?_
                refine at_iconst (pc := 111) C dX12_relieves_111 ?_
                refine at_isub (pc := 112) C dX12_relieves_112 ?_
                obtain ⟨b18, hF⟩ := inb_some hF
                refine at_iaload (pc := 113) C kd110 b18 dX12_relieves_113 ?_
                refine at_istore (pc := 114) (lv' := [(6, vi (σ.1 110 (js (ja (jm 12 v2) v5) 1))), (0, vr g 94), (1, vi v1), (2, vi v2), (3, vi v3), (4, vi v4), (5, vi v5)]) C dX12_relieves_114 (Nat.le_of_ble_eq_true rfl) rfl ?_
                refine at_aload_n (pc := 116) C 1 dX12_relieves_116 rfl rfl ?_
                refine at_getr (pc := 117) (k' := 110) C 16 fw_12_66 kd94 rfl (Nat.le_of_ble_eq_true rfl) rfl rfl dX12_relieves_117 ?_
                refine at_bipush (pc := 120) C dX12_relieves_120 (by decide) ?_
                refine at_iload_n (pc := 122) C 3 dX12_relieves_122 rfl rfl ?_
                refine at_imul (pc := 123) C dX12_relieves_123 ?_
                refine at_iload (pc := 124) C 6 dX12_relieves_124 rfl ?_
                refine at_iadd (pc := 126) C dX12_relieves_126 ?_
                obtain ⟨b19, hF⟩ := inb_some hF
                refine at_iaload (pc := 127) C kd110 b19 dX12_relieves_127 ?_
                refine at_istore (pc := 128) (lv' := [(7, vi (σ.1 110 (ja (jm 12 v2) v5))), (6, vi (σ.1 110 (js (ja (jm 12 v2) v5) 1))), (0, vr g 94), (1, vi v1), (2, vi v2), (3, vi v3), (4, vi v4), (5, vi v5)]) C dX12_relieves_128 (Nat.le_of_ble_eq_true rfl) rfl ?_
                refine at_aload_n (pc := 130) C 2 dX12_relieves_130 rfl rfl ?_
                refine at_iload (pc := 131) C 1 dX12_relieves_131 rfl ?_
                obtain ⟨q20, eq20, hF⟩ := bind_some' hF
                refine at_callV (pc := 133) (ci := 12) C (c_X12_result l g N (σ.1 110 (js (ja (jm 12 v2) v5) 1)) σ q20 (ok 110 (js (ja (jm 12 v2) v5) 1)) ok eq20) kv_X12_result w1585 kd94 rfl rfl rfl rfl (Nat.le_of_ble_eq_true rfl) ⟨rfl, rfl, (Nat.le_of_ble_eq_true rfl), (Nat.le_of_ble_eq_true rfl)⟩ dX12_relieves_133 (fun tq20 okq20 => ?_)
                refine at_if_ge (pc := 136) (tgt := 155) C tq20 dX12_relieves_136 rfl (fun c21 => ?_) (fun c21 => ?_)
                · have hF := (if_pos c21).symm.trans hF
                  refine at_aload_n (pc := 155) C 2 dX12_relieves_155 rfl rfl ?_
                  refine at_getr (pc := 156) (k' := 107) C 13 fw_12_54 kd94 rfl (Nat.le_of_ble_eq_true rfl) rfl rfl dX12_relieves_156 ?_
                  refine at_bipush (pc := 159) C dX12_relieves_159 (by decide) ?_
                  refine at_iload (pc := 161) C 0 dX12_relieves_161 rfl ?_
                  refine at_imul (pc := 163) C dX12_relieves_163 ?_
                  refine at_iload (pc := 164) C 1 dX12_relieves_164 rfl ?_
                  refine at_iadd (pc := 166) C dX12_relieves_166 ?_
                  obtain ⟨b22, hF⟩ := inb_some hF
                  refine at_iaload (pc := 167) C kd107 b22 dX12_relieves_167 ?_
                  refine at_sub (lv' := [(0, vr g 94), (1, vi v1), (2, vi v2), (3, vi v3), (4, vi v4), (5, vi v5)]) [2, 3, 4, 5, 6, 7] rfl ?_
                  exact J168 v4 v5 (σ.1 107 (ja (jm 12 (σ.1 110 (ja (jm 12 v2) v5))) (σ.1 110 (js (ja (jm 12 v2) v5) 1)))) h4 h5 (ok 107 (ja (jm 12 (σ.1 110 (ja (jm 12 v2) v5))) (σ.1 110 (js (ja (jm 12 v2) v5) 1)))) hF
                · have hF := (if_neg c21).symm.trans hF
                  refine at_aload_n (pc := 139) C 2 dX12_relieves_139 rfl rfl ?_
                  refine at_getr (pc := 140) (k' := 106) C 12 fw_12_51 kd94 rfl (Nat.le_of_ble_eq_true rfl) rfl rfl dX12_relieves_140 ?_
                  refine at_bipush (pc := 143) C dX12_relieves_143 (by decide) ?_
                  refine at_iload (pc := 145) C 1 dX12_relieves_145 rfl ?_
                  refine at_imul (pc := 147) C dX12_relieves_147 ?_
                  refine at_iload (pc := 148) C 0 dX12_relieves_148 rfl ?_
                  refine at_iadd (pc := 150) C dX12_relieves_150 ?_
                  obtain ⟨b23, hF⟩ := inb_some hF
                  refine at_iaload (pc := 151) C kd106 b23 dX12_relieves_151 ?_
                  refine at_goto (pc := 152) (tgt := 168) C dX12_relieves_152 rfl ?_
                  refine at_sub (lv' := [(0, vr g 94), (1, vi v1), (2, vi v2), (3, vi v3), (4, vi v4), (5, vi v5)]) [2, 3, 4, 5, 6, 7] rfl ?_
                  exact J168 v4 v5 (σ.1 106 (ja (jm 12 (σ.1 110 (js (ja (jm 12 v2) v5) 1))) (σ.1 110 (ja (jm 12 v2) v5)))) h4 h5 (ok 106 (ja (jm 12 (σ.1 110 (js (ja (jm 12 v2) v5) 1))) (σ.1 110 (ja (jm 12 v2) v5)))) hF
            refine at_sub (lv' := [(0, vr g 94), (1, vi v1), (2, vi v2), (3, vi v3), (4, vi t0), (5, vi 1)]) [2, 3, 4, 5, 1, 0] rfl ?_
            exact L89 v1 v2 v3 t0 1 σ h1 h2 h3 ht0 (isB.r (Or.inr rfl)) ok hF
          refine at_aload_n (pc := 44) C 1 dX12_relieves_44 rfl rfl ?_
          refine at_getr (pc := 45) (k' := 110) C 16 fw_12_66 kd94 rfl (Nat.le_of_ble_eq_true rfl) rfl rfl dX12_relieves_45 ?_
          refine at_bipush (pc := 48) C dX12_relieves_48 (by decide) ?_
          refine at_iload_n (pc := 50) C 0 dX12_relieves_50 rfl rfl ?_
          refine at_imul (pc := 51) C dX12_relieves_51 ?_
          obtain ⟨b24, hF⟩ := inb_some hF
          refine at_iaload (pc := 52) C kd110 b24 dX12_relieves_52 ?_
          refine at_istore_n (pc := 53) (lv' := [(3, vi (q1.1 110 (jm 12 q2))), (2, vi q2), (0, vr g 94), (1, vi v1)]) C dX12_relieves_53 rfl (Nat.le_of_ble_eq_true rfl) rfl ?_
          refine at_aload_n (pc := 54) C 2 dX12_relieves_54 rfl rfl ?_
          refine at_getr (pc := 55) (k' := 105) C 11 fw_12_48 kd94 rfl (Nat.le_of_ble_eq_true rfl) rfl rfl dX12_relieves_55 ?_
          refine at_iload_n (pc := 58) C 0 dX12_relieves_58 rfl rfl ?_
          obtain ⟨b25, hF⟩ := inb_some hF
          refine at_iaload (pc := 59) C kd105 b25 dX12_relieves_59 ?_
          refine at_aload_n (pc := 60) C 2 dX12_relieves_60 rfl rfl ?_
          refine at_getr (pc := 61) (k' := 105) C 11 fw_12_48 kd94 rfl (Nat.le_of_ble_eq_true rfl) rfl rfl dX12_relieves_61 ?_
          refine at_iload_n (pc := 64) C 1 dX12_relieves_64 rfl rfl ?_
          obtain ⟨b26, hF⟩ := inb_some hF
          refine at_iaload (pc := 65) C kd105 b26 dX12_relieves_65 ?_
          refine at_icmp_ge (pc := 66) (tgt := 78) C (okq1 105 (q1.1 110 (jm 12 q2))) (okq1 105 q2) dX12_relieves_66 rfl (fun c27 => ?_) (fun c27 => ?_)
          · have hF := (if_pos c27).symm.trans hF
            refine at_aload_n (pc := 78) C 2 dX12_relieves_78 rfl rfl ?_
            refine at_getr (pc := 79) (k' := 105) C 11 fw_12_48 kd94 rfl (Nat.le_of_ble_eq_true rfl) rfl rfl dX12_relieves_79 ?_
            refine at_iload_n (pc := 82) C 1 dX12_relieves_82 rfl rfl ?_
            refine at_iaload (pc := 83) C kd105 b26 dX12_relieves_83 ?_
            refine at_sub (lv' := [(0, vr g 94), (1, vi v1), (2, vi q2), (3, vi (q1.1 110 (jm 12 q2)))]) [2, 3, 1, 0] rfl ?_
            exact J84 v1 q2 (q1.1 110 (jm 12 q2)) (q1.1 105 q2) q1 h1 tq2 (okq1 110 (jm 12 q2)) (okq1 105 q2) okq1 hF
          · have hF := (if_neg c27).symm.trans hF
            refine at_aload_n (pc := 69) C 2 dX12_relieves_69 rfl rfl ?_
            refine at_getr (pc := 70) (k' := 105) C 11 fw_12_48 kd94 rfl (Nat.le_of_ble_eq_true rfl) rfl rfl dX12_relieves_70 ?_
            refine at_iload_n (pc := 73) C 0 dX12_relieves_73 rfl rfl ?_
            refine at_iaload (pc := 74) C kd105 b25 dX12_relieves_74 ?_
            refine at_goto (pc := 75) (tgt := 84) C dX12_relieves_75 rfl ?_
            refine at_sub (lv' := [(0, vr g 94), (1, vi v1), (2, vi q2), (3, vi (q1.1 110 (jm 12 q2)))]) [2, 3, 1, 0] rfl ?_
            exact J84 v1 q2 (q1.1 110 (jm 12 q2)) (q1.1 105 (q1.1 110 (jm 12 q2))) q1 h1 tq2 (okq1 110 (jm 12 q2)) (okq1 105 (q1.1 110 (jm 12 q2))) okq1 hF
        · have hF := (if_neg c3).symm.trans hF
          refine at_iload_n (pc := 42) C 2 dX12_relieves_42 rfl rfl ?_
          obtain rfl := Option.some.inj hF
          exact at_iret (pc := 43) C hr hlk h1 okq1 dX12_relieves_43
      refine at_sub (lv' := [(0, vr g 94), (1, vi 0)]) [1, 0] rfl ?_
      exact L29 0 (upI σ 94 37 0) (isB.r (Or.inl rfl)) (OK_up (k := 94) (j := 37) ok (isB.r (Or.inl rfl))) hF
    refine at_iload_n (pc := 2) C 1 dX12_relieves_2 rfl rfl ?_
    refine at_sipush (pc := 3) C dX12_relieves_3 (by decide) ?_
    refine at_icmp_ge (pc := 6) (tgt := 22) C h1 (show inR 144 from ⟨by decide, by decide⟩) dX12_relieves_6 rfl (fun c28 => ?_) (fun c28 => ?_)
    · have hF := (if_pos c28).symm.trans hF
      refine at_sub (lv' := [(0, vr g 94)]) [0] rfl ?_
      exact J22 σ ok hF
    · have hF := (if_neg c28).symm.trans hF
      refine at_aload_n (pc := 9) C 0 dX12_relieves_9 rfl rfl ?_
      refine at_getr (pc := 10) (k' := 107) C 13 fw_12_54 kd94 rfl (Nat.le_of_ble_eq_true rfl) rfl rfl dX12_relieves_10 ?_
      refine at_iload_n (pc := 13) C 1 dX12_relieves_13 rfl rfl ?_
      refine at_iconst (pc := 14) C dX12_relieves_14 ?_
      obtain ⟨b29, hF⟩ := inb_some hF
      refine at_iastore (pc := 15) C kd107 b29 dX12_relieves_15 ?_
      refine at_iinc (pc := 16) (lv' := [(1, vi (ja v1 1)), (0, vr g 94)]) C 1 dX12_relieves_16 rfl (Nat.le_of_ble_eq_true rfl) rfl ?_
      refine at_goto (pc := 19) (tgt := 2) C dX12_relieves_19 rfl ?_
      refine at_sub (lv' := [(0, vr g 94), (1, vi (ja v1 1))]) [1, 0] rfl ?_
      exact ih2 _ hF (ja_R v1 1) (OK_up (k := 107) (j := v1) ok (isB.r (Or.inl rfl)))
  refine at_sub (lv' := [(0, vr g 94), (1, vi 0)]) [1, 0] rfl ?_
  exact L2 0 σ (isB.r (Or.inl rfl)) ok hF
abbrev rm_X12_solves : Room := { frames := 5, cells := 0, slots := 0, locals := 122 }
def F_X12_solves (N : Nat)  (σ : Sto) : Option (Int × Sto) :=
  inb 0 8 ((F_X12_laysAll N (σ.1 100 0) 1 σ).bind (fun q2 => (F_X12_relieves N q2).bind (fun q3 => some (q3.1, q3.2))))
set_option maxHeartbeats 4000000 in
set_option maxRecDepth 100000 in
theorem c_X12_solves (l : Launch) (g : Geo) (N : Nat)  (σ : Sto) (res : Int × Sto)  (ok : OK σ) (hF : F_X12_solves N  σ = some res) : MtI l g yX12_solves cX12_solves 1 (some .int) rm_X12_solves [vr g 94] σ res.1 res.2 inR := by
  intro sz
  refine Met.ofAt (own := RX12) (QQ := fun z => QI g z res.1 res.2 inR) (by decide +kernel) (Nat.le_of_ble_eq_true rfl) rfl ?_
  intro p e s m args below meth c C hr hlk
  show At p l e rm_X12_solves s m args below meth c 0 0 g 1 (MQ below (QI g s.heap.size res.1 res.2 inR) args s 0 0 (AA g s.heap.size)) 0 [(0, vr g 94)] [] σ
  unfold F_X12_solves at hF
  refine at_aload_n (pc := 0) C 0 dX12_solves_0 rfl rfl ?_
  refine at_aload_n (pc := 1) C 0 dX12_solves_1 rfl rfl ?_
  refine at_getr (pc := 2) (k' := 100) C 6 fw_12_29 kd94 rfl (Nat.le_of_ble_eq_true rfl) rfl rfl dX12_solves_2 ?_
  refine at_iconst (pc := 5) C dX12_solves_5 ?_
  obtain ⟨b1, hF⟩ := inb_some hF
  refine at_iaload (pc := 6) C kd100 b1 dX12_solves_6 ?_
  refine at_iconst (pc := 7) C dX12_solves_7 ?_
  obtain ⟨q2, eq2, hF⟩ := bind_some' hF
  refine at_callVv (pc := 8) (ci := 12) C (c_X12_laysAll l g N (σ.1 100 0) 1 σ q2 (ok 100 0) (Or.inr rfl) ok eq2) kv_X12_laysAll w1687 kd94 rfl rfl rfl rfl (Nat.le_of_ble_eq_true rfl) ⟨rfl, rfl, (Nat.le_of_ble_eq_true rfl), (Nat.le_of_ble_eq_true rfl)⟩ dX12_solves_8 (fun okq2 => ?_)
  refine at_aload_n (pc := 11) C 0 dX12_solves_11 rfl rfl ?_
  obtain ⟨q3, eq3, hF⟩ := bind_some' hF
  refine at_callV (pc := 12) (ci := 12) C (c_X12_relieves l g N  q2 q3  okq2 eq3) kv_X12_relieves w1691 kd94 rfl rfl rfl rfl (Nat.le_of_ble_eq_true rfl) ⟨rfl, rfl, (Nat.le_of_ble_eq_true rfl), (Nat.le_of_ble_eq_true rfl)⟩ dX12_solves_12 (fun tq3 okq3 => ?_)
  obtain rfl := Option.some.inj hF
  exact at_iret (pc := 15) C hr hlk tq3 okq3 dX12_solves_15
abbrev rm_X12_canClaim : Room := { frames := 3, cells := 0, slots := 0, locals := 79 }
def F_X12_canClaim_J39 (N : Nat)   (σ : Sto) : Option (Int) :=
  some 0
def F_X12_canClaim (N : Nat) (v1 : Int) (v2 : Int) (v3 : Int) (σ : Sto) : Option (Int) :=
  (F_X12_boundOf N v1 v2 σ).bind (fun q1 => (F_X12_claimedBy N v1 v2 σ).bind (fun q2 => if (js q1 q2) < v3 then (F_X12_canClaim_J39 N   σ) else ((F_X12_openOf N v1 σ).bind (fun q4 => if q4 < v3 then (F_X12_canClaim_J39 N   σ) else ((F_X12_openOf N v2 σ).bind (fun q6 => if q6 < v3 then (F_X12_canClaim_J39 N   σ) else (some 1)))))))
set_option maxHeartbeats 4000000 in
set_option maxRecDepth 100000 in
theorem c_X12_canClaim (l : Launch) (g : Geo) (N : Nat) (v1 : Int) (v2 : Int) (v3 : Int) (σ : Sto) (res : Int) (h1 : inR v1) (h2 : inR v2) (h3 : inR v3) (ok : OK σ) (hF : F_X12_canClaim N v1 v2 v3 σ = some res) : MtI l g yX12_canClaim cX12_canClaim 4 (some .boolean) rm_X12_canClaim [vr g 94, vi v1, vi v2, vi v3] σ res σ isB := by
  intro sz
  refine Met.ofAt (own := RX12) (QQ := fun z => QI g z res σ isB) (by decide +kernel) (Nat.le_of_ble_eq_true rfl) rfl ?_
  intro p e s m args below meth c C hr hlk
  show At p l e rm_X12_canClaim s m args below meth c 0 0 g 4 (MQ below (QI g s.heap.size res σ isB) args s 0 0 (AA g s.heap.size)) 0 [(0, vr g 94), (1, vi v1), (2, vi v2), (3, vi v3)] [] σ
  unfold F_X12_canClaim at hF
  have J39 : F_X12_canClaim_J39 N   σ = some res → At p l e rm_X12_canClaim s m args below meth c 0 0 g 4 (MQ below (QI g s.heap.size res σ isB) args s 0 0 (AA g s.heap.size)) 39 [] [] σ := by
    intro   hF
    unfold F_X12_canClaim_J39 at hF
    refine at_iconst (pc := 39) C dX12_canClaim_39 ?_
    obtain rfl := Option.some.inj hF
    exact at_zret (pc := 40) C hr hlk (Or.inl rfl) ok dX12_canClaim_40
  refine at_iload_n (pc := 0) C 3 dX12_canClaim_0 rfl rfl ?_
  refine at_aload_n (pc := 1) C 0 dX12_canClaim_1 rfl rfl ?_
  refine at_iload_n (pc := 2) C 1 dX12_canClaim_2 rfl rfl ?_
  refine at_iload_n (pc := 3) C 2 dX12_canClaim_3 rfl rfl ?_
  obtain ⟨q1, eq1, hF⟩ := bind_some' hF
  refine at_callV (pc := 4) (ci := 12) C (c_X12_boundOf l g N v1 v2 σ q1 h1 h2 ok eq1) kv_X12_boundOf w1630 kd94 rfl rfl rfl rfl (Nat.le_of_ble_eq_true rfl) ⟨rfl, rfl, (Nat.le_of_ble_eq_true rfl), (Nat.le_of_ble_eq_true rfl)⟩ dX12_canClaim_4 (fun tq1 okq1 => ?_)
  refine at_aload_n (pc := 7) C 0 dX12_canClaim_7 rfl rfl ?_
  refine at_iload_n (pc := 8) C 1 dX12_canClaim_8 rfl rfl ?_
  refine at_iload_n (pc := 9) C 2 dX12_canClaim_9 rfl rfl ?_
  obtain ⟨q2, eq2, hF⟩ := bind_some' hF
  refine at_callV (pc := 10) (ci := 12) C (c_X12_claimedBy l g N v1 v2 σ q2 h1 h2 ok eq2) kv_X12_claimedBy w1642 kd94 rfl rfl rfl rfl (Nat.le_of_ble_eq_true rfl) ⟨rfl, rfl, (Nat.le_of_ble_eq_true rfl), (Nat.le_of_ble_eq_true rfl)⟩ dX12_canClaim_10 (fun tq2 okq2 => ?_)
  refine at_isub (pc := 13) C dX12_canClaim_13 ?_
  refine at_icmp_gt (pc := 14) (tgt := 39) C h3 (js_R q1 q2) dX12_canClaim_14 rfl (fun c3 => ?_) (fun c3 => ?_)
  · have hF := (if_pos c3).symm.trans hF
    refine at_sub (lv' := []) [] rfl ?_
    exact J39  hF
  · have hF := (if_neg c3).symm.trans hF
    refine at_iload_n (pc := 17) C 3 dX12_canClaim_17 rfl rfl ?_
    refine at_aload_n (pc := 18) C 0 dX12_canClaim_18 rfl rfl ?_
    refine at_iload_n (pc := 19) C 1 dX12_canClaim_19 rfl rfl ?_
    obtain ⟨q4, eq4, hF⟩ := bind_some' hF
    refine at_callV (pc := 20) (ci := 12) C (c_X12_openOf l g N v1 σ q4 h1 ok eq4) kv_X12_openOf w1646 kd94 rfl rfl rfl rfl (Nat.le_of_ble_eq_true rfl) ⟨rfl, rfl, (Nat.le_of_ble_eq_true rfl), (Nat.le_of_ble_eq_true rfl)⟩ dX12_canClaim_20 (fun tq4 okq4 => ?_)
    refine at_icmp_gt (pc := 23) (tgt := 39) C h3 tq4 dX12_canClaim_23 rfl (fun c5 => ?_) (fun c5 => ?_)
    · have hF := (if_pos c5).symm.trans hF
      refine at_sub (lv' := []) [] rfl ?_
      exact J39  hF
    · have hF := (if_neg c5).symm.trans hF
      refine at_iload_n (pc := 26) C 3 dX12_canClaim_26 rfl rfl ?_
      refine at_aload_n (pc := 27) C 0 dX12_canClaim_27 rfl rfl ?_
      refine at_iload_n (pc := 28) C 2 dX12_canClaim_28 rfl rfl ?_
      obtain ⟨q6, eq6, hF⟩ := bind_some' hF
      refine at_callV (pc := 29) (ci := 12) C (c_X12_openOf l g N v2 σ q6 h2 ok eq6) kv_X12_openOf w1646 kd94 rfl rfl rfl rfl (Nat.le_of_ble_eq_true rfl) ⟨rfl, rfl, (Nat.le_of_ble_eq_true rfl), (Nat.le_of_ble_eq_true rfl)⟩ dX12_canClaim_29 (fun tq6 okq6 => ?_)
      refine at_icmp_gt (pc := 32) (tgt := 39) C h3 tq6 dX12_canClaim_32 rfl (fun c7 => ?_) (fun c7 => ?_)
      · have hF := (if_pos c7).symm.trans hF
        refine at_sub (lv' := []) [] rfl ?_
        exact J39  hF
      · have hF := (if_neg c7).symm.trans hF
        refine at_iconst (pc := 35) C dX12_canClaim_35 ?_
        refine at_goto (pc := 36) (tgt := 40) C dX12_canClaim_36 rfl ?_
        obtain rfl := Option.some.inj hF
        exact at_zret (pc := 40) C hr hlk (Or.inr rfl) ok dX12_canClaim_40
