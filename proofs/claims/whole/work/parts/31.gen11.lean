abbrev rm_X12_route : Room := { frames := 5, cells := 0, slots := 0, locals := 122 }
def F_X12_route_J67 (N : Nat)   (σ : Sto) : Option (Int × Sto) :=
  some ((-2), σ)
def F_X12_route_J44 (N : Nat)  (v1 : Int) (σ : Sto) : Option (Int × Sto) :=
  (F_X12_laysRoutes N σ).bind (fun q4 => (F_X12_bestEnd N q4).bind (fun q5 => if q5 < 0 then (F_X12_route_J67 N   q4) else (inb q5 12 (if v1 < (q4.1 109 q5) then (inb (ja (jm 12 q5) v1) 156 (some ((q4.1 110 (ja (jm 12 q5) v1)), q4))) else (F_X12_route_J67 N   q4)))))
def F_X12_route_B24 (N : Nat) (nx24 : (Int × Sto) → Option (Int × Sto)) (v1 : Int) (v2 : Int) (σ : Sto) : Option (Int × Sto) :=
  if 144 ≤ v2 then (F_X12_route_J44 N  v1 σ) else (inb v2 144 (nx24 ((ja v2 1), (upI σ 107 v2 0))))
def F_X12_route (N : Nat) (v1 : Int) (σ : Sto) : Option (Int × Sto) :=
  if 0 ≤ v1 then (inb 0 8 ((F_X12_laysAll N ((upI σ 94 2 0).1 100 0) 1 (upI σ 94 2 0)).bind (fun q3 => loopK (fun q nx24 => F_X12_route_B24 N  nx24 v1 q.1 q.2) N (0, q3)))) else (some ((-1), (upI σ 94 2 0)))
set_option maxHeartbeats 4000000 in
set_option maxRecDepth 100000 in
theorem c_X12_route (l : Launch) (g : Geo) (N : Nat) (v1 : Int) (σ : Sto) (res : Int × Sto) (h1 : inR v1) (ok : OK σ) (hF : F_X12_route N v1 σ = some res) : MtI l g yX12_route cX12_route 3 (some .int) rm_X12_route [vr g 94, vi v1] σ res.1 res.2 inR := by
  intro sz
  refine Met.ofAt (own := RX12) (QQ := fun z => QI g z res.1 res.2 inR) (by decide +kernel) (Nat.le_of_ble_eq_true rfl) rfl ?_
  intro p e s m args below meth c C hr hlk
  show At p l e rm_X12_route s m args below meth c 0 0 g 3 (MQ below (QI g s.heap.size res.1 res.2 inR) args s 0 0 (AA g s.heap.size)) 0 [(0, vr g 94), (1, vi v1)] [] σ
  unfold F_X12_route at hF
  refine at_aload_n (pc := 0) C 0 dX12_route_0 rfl rfl ?_
  refine at_iconst (pc := 1) C dX12_route_1 ?_
  refine at_puti (pc := 2) (jz := 2) C fu_12_81 kd94 rfl (Nat.le_of_ble_eq_true rfl) rfl rfl dX12_route_2 ?_
  refine at_iload_n (pc := 5) C 1 dX12_route_5 rfl rfl ?_
  refine at_if_ge (pc := 6) (tgt := 11) C h1 dX12_route_6 rfl (fun c1 => ?_) (fun c1 => ?_)
  · have hF := (if_pos c1).symm.trans hF
    refine at_aload_n (pc := 11) C 0 dX12_route_11 rfl rfl ?_
    refine at_aload_n (pc := 12) C 0 dX12_route_12 rfl rfl ?_
    refine at_getr (pc := 13) (k' := 100) C 6 fw_12_29 kd94 rfl (Nat.le_of_ble_eq_true rfl) rfl rfl dX12_route_13 ?_
    refine at_iconst (pc := 16) C dX12_route_16 ?_
    obtain ⟨b2, hF⟩ := inb_some hF
    refine at_iaload (pc := 17) C kd100 b2 dX12_route_17 ?_
    refine at_iconst (pc := 18) C dX12_route_18 ?_
    obtain ⟨q3, eq3, hF⟩ := bind_some' hF
    refine at_callVv (pc := 19) (ci := 12) C (c_X12_laysAll l g N ((upI σ 94 2 0).1 100 0) 1 (upI σ 94 2 0) q3 ((OK_up (k := 94) (j := 2) ok (isB.r (Or.inl rfl))) 100 0) (Or.inr rfl) (OK_up (k := 94) (j := 2) ok (isB.r (Or.inl rfl))) eq3) kv_X12_laysAll w1687 kd94 rfl rfl rfl rfl (Nat.le_of_ble_eq_true rfl) ⟨rfl, rfl, (Nat.le_of_ble_eq_true rfl), (Nat.le_of_ble_eq_true rfl)⟩ dX12_route_19 (fun okq3 => ?_)
    refine at_iconst (pc := 22) C dX12_route_22 ?_
    refine at_istore_n (pc := 23) (lv' := [(2, vi 0), (0, vr g 94), (1, vi v1)]) C dX12_route_23 rfl (Nat.le_of_ble_eq_true rfl) rfl ?_
    have L24 : ∀ (v1 : Int) (v2 : Int) (σ : Sto), inR v1 → inR v2 → OK σ → loopK (fun q nx24 => F_X12_route_B24 N  nx24 v1 q.1 q.2) N (v2, σ) = some res → At p l e rm_X12_route s m args below meth c 0 0 g 3 (MQ below (QI g s.heap.size res.1 res.2 inR) args s 0 0 (AA g s.heap.size)) 24 [(0, vr g 94), (1, vi v1), (2, vi v2)] [] σ := by
      intro v1 v2 σ h1 h2 ok hF
      refine loopK_ind (res := res) (P := fun (q : Int × Sto) => inR q.1 → OK q.2 → At p l e rm_X12_route s m args below meth c 0 0 g 3 (MQ below (QI g s.heap.size res.1 res.2 inR) args s 0 0 (AA g s.heap.size)) 24 [(0, vr g 94), (1, vi v1), (2, vi q.1)] [] q.2) ?_ N _ hF h2 ok
      intro nx24 q ih24 hF
      obtain ⟨v2, σ⟩ := q
      intro h2 ok
      have hF : F_X12_route_B24 N  nx24 v1 v2 σ = some res := hF
      unfold F_X12_route_B24 at hF
      have J44 : ∀ (v1 : Int) (σ : Sto), inR v1 → OK σ → F_X12_route_J44 N  v1 σ = some res → At p l e rm_X12_route s m args below meth c 0 0 g 3 (MQ below (QI g s.heap.size res.1 res.2 inR) args s 0 0 (AA g s.heap.size)) 44 [(0, vr g 94), (1, vi v1)] [] σ := by
        intro v1 σ h1 ok hF
        unfold F_X12_route_J44 at hF
        have J67 : ∀  (σ : Sto), OK σ → F_X12_route_J67 N   σ = some res → At p l e rm_X12_route s m args below meth c 0 0 g 3 (MQ below (QI g s.heap.size res.1 res.2 inR) args s 0 0 (AA g s.heap.size)) 67 [] [] σ := by
          intro σ ok hF
          unfold F_X12_route_J67 at hF
          refine at_bipush (pc := 67) C dX12_route_67 (by decide) ?_
          refine at_goto (pc := 69) (tgt := 83) C dX12_route_69 rfl ?_
          obtain rfl := Option.some.inj hF
          exact at_iret (pc := 83) C hr hlk (show inR (-2) from ⟨by decide, by decide⟩) ok dX12_route_83
        refine at_aload_n (pc := 44) C 0 dX12_route_44 rfl rfl ?_
        obtain ⟨q4, eq4, hF⟩ := bind_some' hF
        refine at_callVv (pc := 45) (ci := 12) C (c_X12_laysRoutes l g N  σ q4  ok eq4) kv_X12_laysRoutes w1695 kd94 rfl rfl rfl rfl (Nat.le_of_ble_eq_true rfl) ⟨rfl, rfl, (Nat.le_of_ble_eq_true rfl), (Nat.le_of_ble_eq_true rfl)⟩ dX12_route_45 (fun okq4 => ?_)
        refine at_aload_n (pc := 48) C 0 dX12_route_48 rfl rfl ?_
        obtain ⟨q5, eq5, hF⟩ := bind_some' hF
        refine at_callV (pc := 49) (ci := 12) C (c_X12_bestEnd l g N  q4 q5  okq4 eq5) kv_X12_bestEnd w1711 kd94 rfl rfl rfl rfl (Nat.le_of_ble_eq_true rfl) ⟨rfl, rfl, (Nat.le_of_ble_eq_true rfl), (Nat.le_of_ble_eq_true rfl)⟩ dX12_route_49 (fun tq5 okq5 => ?_)
        refine at_istore_n (pc := 52) (lv' := [(2, vi q5), (0, vr g 94), (1, vi v1)]) C dX12_route_52 rfl (Nat.le_of_ble_eq_true rfl) rfl ?_
        refine at_iload_n (pc := 53) C 0 dX12_route_53 rfl rfl ?_
        refine at_if_lt (pc := 54) (tgt := 67) C tq5 dX12_route_54 rfl (fun c6 => ?_) (fun c6 => ?_)
        · have hF := (if_pos c6).symm.trans hF
          refine at_sub (lv' := []) [] rfl ?_
          exact J67 q4 okq4 hF
        · have hF := (if_neg c6).symm.trans hF
          refine at_iload_n (pc := 57) C 2 dX12_route_57 rfl rfl ?_
          refine at_aload_n (pc := 58) C 1 dX12_route_58 rfl rfl ?_
          refine at_getr (pc := 59) (k' := 109) C 15 fw_12_63 kd94 rfl (Nat.le_of_ble_eq_true rfl) rfl rfl dX12_route_59 ?_
          refine at_iload_n (pc := 62) C 0 dX12_route_62 rfl rfl ?_
          obtain ⟨b7, hF⟩ := inb_some hF
          refine at_iaload (pc := 63) C kd109 b7 dX12_route_63 ?_
          refine at_icmp_lt (pc := 64) (tgt := 72) C h1 (okq4 109 q5) dX12_route_64 rfl (fun c8 => ?_) (fun c8 => ?_)
          · have hF := (if_pos c8).symm.trans hF
            refine at_aload_n (pc := 72) C 1 dX12_route_72 rfl rfl ?_
            refine at_getr (pc := 73) (k' := 110) C 16 fw_12_66 kd94 rfl (Nat.le_of_ble_eq_true rfl) rfl rfl dX12_route_73 ?_
            refine at_bipush (pc := 76) C dX12_route_76 (by decide) ?_
            refine at_iload_n (pc := 78) C 0 dX12_route_78 rfl rfl ?_
            refine at_imul (pc := 79) C dX12_route_79 ?_
            refine at_iload_n (pc := 80) C 2 dX12_route_80 rfl rfl ?_
            refine at_iadd (pc := 81) C dX12_route_81 ?_
            obtain ⟨b9, hF⟩ := inb_some hF
            refine at_iaload (pc := 82) C kd110 b9 dX12_route_82 ?_
            obtain rfl := Option.some.inj hF
            exact at_iret (pc := 83) C hr hlk (okq4 110 (ja (jm 12 q5) v1)) okq4 dX12_route_83
          · have hF := (if_neg c8).symm.trans hF
            refine at_sub (lv' := []) [] rfl ?_
            exact J67 q4 okq4 hF
      refine at_iload_n (pc := 24) C 2 dX12_route_24 rfl rfl ?_
      refine at_sipush (pc := 25) C dX12_route_25 (by decide) ?_
      refine at_icmp_ge (pc := 28) (tgt := 44) C h2 (show inR 144 from ⟨by decide, by decide⟩) dX12_route_28 rfl (fun c10 => ?_) (fun c10 => ?_)
      · have hF := (if_pos c10).symm.trans hF
        refine at_sub (lv' := [(0, vr g 94), (1, vi v1)]) [0, 1] rfl ?_
        exact J44 v1 σ h1 ok hF
      · have hF := (if_neg c10).symm.trans hF
        refine at_aload_n (pc := 31) C 0 dX12_route_31 rfl rfl ?_
        refine at_getr (pc := 32) (k' := 107) C 13 fw_12_54 kd94 rfl (Nat.le_of_ble_eq_true rfl) rfl rfl dX12_route_32 ?_
        refine at_iload_n (pc := 35) C 2 dX12_route_35 rfl rfl ?_
        refine at_iconst (pc := 36) C dX12_route_36 ?_
        obtain ⟨b11, hF⟩ := inb_some hF
        refine at_iastore (pc := 37) C kd107 b11 dX12_route_37 ?_
        refine at_iinc (pc := 38) (lv' := [(2, vi (ja v2 1)), (0, vr g 94), (1, vi v1)]) C 2 dX12_route_38 rfl (Nat.le_of_ble_eq_true rfl) rfl ?_
        refine at_goto (pc := 41) (tgt := 24) C dX12_route_41 rfl ?_
        refine at_sub (lv' := [(0, vr g 94), (1, vi v1), (2, vi (ja v2 1))]) [1, 2, 0] rfl ?_
        exact ih24 _ hF (ja_R v2 1) (OK_up (k := 107) (j := v2) ok (isB.r (Or.inl rfl)))
    refine at_sub (lv' := [(0, vr g 94), (1, vi v1), (2, vi 0)]) [1, 2, 0] rfl ?_
    exact L24 v1 0 q3 h1 (isB.r (Or.inl rfl)) okq3 hF
  · have hF := (if_neg c1).symm.trans hF
    refine at_iconst (pc := 9) C dX12_route_9 ?_
    obtain rfl := Option.some.inj hF
    exact at_iret (pc := 10) C hr hlk (show inR (-1) from ⟨by decide, by decide⟩) (OK_up (k := 94) (j := 2) ok (isB.r (Or.inl rfl))) dX12_route_10
abbrev rm_X12_steps : Room := { frames := 2, cells := 0, slots := 0, locals := 47 }
def F_X12_steps_J129 (N : Nat) (nx31 : (Int × Int) → Option (Int × Sto)) (v2 : Int) (v3 : Int) (v5 : Int) (v6 : Int) (σ : Sto) : Option (Int × Sto) :=
  nx31 (v6, (ja v5 1))
def F_X12_steps_J123 (N : Nat) (nx31 : (Int × Int) → Option (Int × Sto)) (nx57 : (Int × Int) → Option (Int × Sto)) (v2 : Int) (v3 : Int) (v4 : Int) (v5 : Int) (v6 : Int) (v7 : Int) (σ : Sto) : Option (Int × Sto) :=
  nx57 (v6, (ja v7 1))
def F_X12_steps_J114 (N : Nat) (nx31 : (Int × Int) → Option (Int × Sto)) (nx57 : (Int × Int) → Option (Int × Sto)) (nx72 : (Int × Int) → Option (Int × Sto)) (v2 : Int) (v3 : Int) (v4 : Int) (v5 : Int) (v7 : Int) (v8 : Int) (t0 : Int) (t1 : Int) (σ : Sto) : Option (Int × Sto) :=
  nx72 ((jor t0 t1), (ja v8 1))
def F_X12_steps_J113 (N : Nat) (nx31 : (Int × Int) → Option (Int × Sto)) (nx57 : (Int × Int) → Option (Int × Sto)) (nx72 : (Int × Int) → Option (Int × Sto)) (v2 : Int) (v3 : Int) (v4 : Int) (v5 : Int) (v7 : Int) (v8 : Int) (t0 : Int) (σ : Sto) : Option (Int × Sto) :=
  F_X12_steps_J114 N nx31 nx57 nx72 v2 v3 v4 v5 v7 v8 t0 0 σ
def F_X12_steps_B72 (N : Nat) (nx31 : (Int × Int) → Option (Int × Sto)) (nx57 : (Int × Int) → Option (Int × Sto)) (nx72 : (Int × Int) → Option (Int × Sto)) (v2 : Int) (v3 : Int) (v4 : Int) (v5 : Int) (v7 : Int) (v6 : Int) (v8 : Int) (σ : Sto) : Option (Int × Sto) :=
  if (σ.1 94 11) ≤ v8 then (F_X12_steps_J123 N nx31 nx57 v2 v3 v4 v5 v6 v7 σ) else (if (jand (jshr v4 v7) 1) = 1 then ((F_X12_percentOf N v7 v8 v3 σ).bind (fun q10 => if q10 ≤ 0 then (F_X12_steps_J113 N nx31 nx57 nx72 v2 v3 v4 v5 v7 v8 v6 σ) else (F_X12_steps_J114 N nx31 nx57 nx72 v2 v3 v4 v5 v7 v8 v6 (jshl 1 v8) σ))) else (F_X12_steps_J113 N nx31 nx57 nx72 v2 v3 v4 v5 v7 v8 v6 σ))
def F_X12_steps_B57 (N : Nat) (nx31 : (Int × Int) → Option (Int × Sto)) (nx57 : (Int × Int) → Option (Int × Sto)) (v2 : Int) (v3 : Int) (v4 : Int) (v5 : Int) (v6 : Int) (v7 : Int) (σ : Sto) : Option (Int × Sto) :=
  if (σ.1 94 11) ≤ v7 then (F_X12_steps_J129 N nx31 v2 v3 v5 v6 σ) else (loopK (fun q nx72 => F_X12_steps_B72 N nx31 nx57 nx72 v2 v3 v4 v5 v7 q.1 q.2 σ) N (v6, (ja v7 1)))
def F_X12_steps_B31 (N : Nat) (nx31 : (Int × Int) → Option (Int × Sto)) (v2 : Int) (v3 : Int) (v4 : Int) (v5 : Int) (σ : Sto) : Option (Int × Sto) :=
  if 8 ≤ v5 then (some ((-2), σ)) else (if (jand (jshr v4 v2) 1) = 1 then (some (v5, σ)) else (loopK (fun q nx57 => F_X12_steps_B57 N nx31 nx57 v2 v3 v4 v5 q.1 q.2 σ) N (0, 0)))
def F_X12_steps (N : Nat) (v1 : Int) (v2 : Int) (v3 : Int) (σ : Sto) : Option (Int × Sto) :=
  (F_X12_areMembers N v1 v2 (upI σ 94 2 0)).bind (fun q1 => if q1 = 0 then (some ((-1), (upI σ 94 2 0))) else ((F_X12_isDay N v3 (upI σ 94 2 0)).bind (fun q3 => if q3 = 0 then (some ((-1), (upI σ 94 2 0))) else (loopK (fun q nx31 => F_X12_steps_B31 N  nx31 v2 v3 q.1 q.2 (upI σ 94 2 0)) N ((jshl 1 v1), 0)))))
set_option maxHeartbeats 4000000 in
set_option maxRecDepth 100000 in
theorem c_X12_steps (l : Launch) (g : Geo) (N : Nat) (v1 : Int) (v2 : Int) (v3 : Int) (σ : Sto) (res : Int × Sto) (h1 : inR v1) (h2 : inR v2) (h3 : inR v3) (ok : OK σ) (hF : F_X12_steps N v1 v2 v3 σ = some res) : MtI l g yX12_steps cX12_steps 9 (some .int) rm_X12_steps [vr g 94, vi v1, vi v2, vi v3] σ res.1 res.2 inR := by
  intro sz
  refine Met.ofAt (own := RX12) (QQ := fun z => QI g z res.1 res.2 inR) (by decide +kernel) (Nat.le_of_ble_eq_true rfl) rfl ?_
  intro p e s m args below meth c C hr hlk
  show At p l e rm_X12_steps s m args below meth c 0 0 g 9 (MQ below (QI g s.heap.size res.1 res.2 inR) args s 0 0 (AA g s.heap.size)) 0 [(0, vr g 94), (1, vi v1), (2, vi v2), (3, vi v3)] [] σ
  unfold F_X12_steps at hF
  refine at_aload_n (pc := 0) C 0 dX12_steps_0 rfl rfl ?_
  refine at_iconst (pc := 1) C dX12_steps_1 ?_
  refine at_puti (pc := 2) (jz := 2) C fu_12_81 kd94 rfl (Nat.le_of_ble_eq_true rfl) rfl rfl dX12_steps_2 ?_
  refine at_aload_n (pc := 5) C 0 dX12_steps_5 rfl rfl ?_
  refine at_iload_n (pc := 6) C 1 dX12_steps_6 rfl rfl ?_
  refine at_iload_n (pc := 7) C 2 dX12_steps_7 rfl rfl ?_
  obtain ⟨q1, eq1, hF⟩ := bind_some' hF
  refine at_callV (pc := 8) (ci := 12) C (c_X12_areMembers l g N v1 v2 (upI σ 94 2 0) q1 h1 h2 (OK_up (k := 94) (j := 2) ok (isB.r (Or.inl rfl))) eq1) kv_X12_areMembers w1755 kd94 rfl rfl rfl rfl (Nat.le_of_ble_eq_true rfl) ⟨rfl, rfl, (Nat.le_of_ble_eq_true rfl), (Nat.le_of_ble_eq_true rfl)⟩ dX12_steps_8 (fun tq1 okq1 => ?_)
  refine at_if_eq (pc := 11) (tgt := 21) C (isB.r tq1) dX12_steps_11 rfl (fun c2 => ?_) (fun c2 => ?_)
  · have hF := (if_pos c2).symm.trans hF
    refine at_iconst (pc := 21) C dX12_steps_21 ?_
    obtain rfl := Option.some.inj hF
    exact at_iret (pc := 22) C hr hlk (show inR (-1) from ⟨by decide, by decide⟩) (OK_up (k := 94) (j := 2) ok (isB.r (Or.inl rfl))) dX12_steps_22
  · have hF := (if_neg c2).symm.trans hF
    refine at_iload_n (pc := 14) C 3 dX12_steps_14 rfl rfl ?_
    obtain ⟨q3, eq3, hF⟩ := bind_some' hF
    refine at_callS (pc := 15) C (c_X12_isDay l g N v3 (upI σ 94 2 0) q3 h3 (OK_up (k := 94) (j := 2) ok (isB.r (Or.inl rfl))) eq3) ks_X12_isDay w1731 rfl rfl (Nat.le_of_ble_eq_true rfl) ⟨rfl, rfl, (Nat.le_of_ble_eq_true rfl), (Nat.le_of_ble_eq_true rfl)⟩ dX12_steps_15 (fun tq3 okq3 => ?_)
    refine at_if_ne (pc := 18) (tgt := 23) C (isB.r tq3) dX12_steps_18 rfl (fun c4 => ?_) (fun c4 => ?_)
    · have hF := (if_neg c4).symm.trans hF
      refine at_iconst (pc := 23) C dX12_steps_23 ?_
      refine at_iload_n (pc := 24) C 1 dX12_steps_24 rfl rfl ?_
      refine at_ishl (pc := 25) C dX12_steps_25 ?_
      refine at_istore (pc := 26) (lv' := [(4, vi (jshl 1 v1)), (0, vr g 94), (1, vi v1), (2, vi v2), (3, vi v3)]) C dX12_steps_26 (Nat.le_of_ble_eq_true rfl) rfl ?_
      refine at_iconst (pc := 28) C dX12_steps_28 ?_
      refine at_istore (pc := 29) (lv' := [(5, vi 0), (4, vi (jshl 1 v1)), (0, vr g 94), (1, vi v1), (2, vi v2), (3, vi v3)]) C dX12_steps_29 (Nat.le_of_ble_eq_true rfl) rfl ?_
      have L31 : ∀ (v2 : Int) (v3 : Int) (v4 : Int) (v5 : Int) (σ : Sto), inR v2 → inR v3 → inR v4 → inR v5 → OK σ → loopK (fun q nx31 => F_X12_steps_B31 N  nx31 v2 v3 q.1 q.2 σ) N (v4, v5) = some res → At p l e rm_X12_steps s m args below meth c 0 0 g 9 (MQ below (QI g s.heap.size res.1 res.2 inR) args s 0 0 (AA g s.heap.size)) 31 [(0, vr g 94), (2, vi v2), (3, vi v3), (4, vi v4), (5, vi v5)] [] σ := by
        intro v2 v3 v4 v5 σ h2 h3 h4 h5 ok hF
        refine loopK_ind (res := res) (P := fun (q : Int × Int) => inR q.1 → inR q.2 → At p l e rm_X12_steps s m args below meth c 0 0 g 9 (MQ below (QI g s.heap.size res.1 res.2 inR) args s 0 0 (AA g s.heap.size)) 31 [(0, vr g 94), (2, vi v2), (3, vi v3), (4, vi q.1), (5, vi q.2)] [] σ) ?_ N _ hF h4 h5
        intro nx31 q ih31 hF
        obtain ⟨v4, v5⟩ := q
        intro h4 h5
        have hF : F_X12_steps_B31 N  nx31 v2 v3 v4 v5 σ = some res := hF
        unfold F_X12_steps_B31 at hF
        refine at_iload (pc := 31) C 4 dX12_steps_31 rfl ?_
        refine at_bipush (pc := 33) C dX12_steps_33 (by decide) ?_
        refine at_icmp_ge (pc := 35) (tgt := 139) C h5 (show inR 8 from ⟨by decide, by decide⟩) dX12_steps_35 rfl (fun c5 => ?_) (fun c5 => ?_)
        · have hF := (if_pos c5).symm.trans hF
          refine at_bipush (pc := 139) C dX12_steps_139 (by decide) ?_
          obtain rfl := Option.some.inj hF
          exact at_iret (pc := 141) C hr hlk (show inR (-2) from ⟨by decide, by decide⟩) ok dX12_steps_141
        · have hF := (if_neg c5).symm.trans hF
          refine at_iload (pc := 38) C 3 dX12_steps_38 rfl ?_
          refine at_iload_n (pc := 40) C 1 dX12_steps_40 rfl rfl ?_
          refine at_ishr (pc := 41) C dX12_steps_41 ?_
          refine at_iconst (pc := 42) C dX12_steps_42 ?_
          refine at_iand (pc := 43) C dX12_steps_43 ?_
          refine at_iconst (pc := 44) C dX12_steps_44 ?_
          refine at_icmp_ne (pc := 45) (tgt := 51) C (jand_R (jshr v4 v2) 1) (isB.r (Or.inr rfl)) dX12_steps_45 rfl (fun c6 => ?_) (fun c6 => ?_)
          · have hF := (if_neg c6).symm.trans hF
            refine at_iconst (pc := 51) C dX12_steps_51 ?_
            refine at_istore (pc := 52) (lv' := [(6, vi 0), (0, vr g 94), (2, vi v2), (3, vi v3), (4, vi v4), (5, vi v5)]) C dX12_steps_52 (Nat.le_of_ble_eq_true rfl) rfl ?_
            refine at_iconst (pc := 54) C dX12_steps_54 ?_
            refine at_istore (pc := 55) (lv' := [(7, vi 0), (6, vi 0), (0, vr g 94), (2, vi v2), (3, vi v3), (4, vi v4), (5, vi v5)]) C dX12_steps_55 (Nat.le_of_ble_eq_true rfl) rfl ?_
            have L57 : ∀ (v4 : Int) (v5 : Int) (v6 : Int) (v7 : Int), inR v4 → inR v5 → inR v6 → inR v7 → loopK (fun q nx57 => F_X12_steps_B57 N nx31 nx57 v2 v3 v4 v5 q.1 q.2 σ) N (v6, v7) = some res → At p l e rm_X12_steps s m args below meth c 0 0 g 9 (MQ below (QI g s.heap.size res.1 res.2 inR) args s 0 0 (AA g s.heap.size)) 57 [(0, vr g 94), (2, vi v2), (3, vi v3), (4, vi v4), (5, vi v5), (6, vi v6), (7, vi v7)] [] σ := by
              intro v4 v5 v6 v7 h4 h5 h6 h7 hF
              refine loopK_ind (res := res) (P := fun (q : Int × Int) => inR q.1 → inR q.2 → At p l e rm_X12_steps s m args below meth c 0 0 g 9 (MQ below (QI g s.heap.size res.1 res.2 inR) args s 0 0 (AA g s.heap.size)) 57 [(0, vr g 94), (2, vi v2), (3, vi v3), (4, vi v4), (5, vi v5), (6, vi q.1), (7, vi q.2)] [] σ) ?_ N _ hF h6 h7
              intro nx57 q ih57 hF
              obtain ⟨v6, v7⟩ := q
              intro h6 h7
              have hF : F_X12_steps_B57 N nx31 nx57 v2 v3 v4 v5 v6 v7 σ = some res := hF
              unfold F_X12_steps_B57 at hF
              have J129 : ∀ (v5 : Int) (v6 : Int), inR v5 → inR v6 → F_X12_steps_J129 N nx31 v2 v3 v5 v6 σ = some res → At p l e rm_X12_steps s m args below meth c 0 0 g 9 (MQ below (QI g s.heap.size res.1 res.2 inR) args s 0 0 (AA g s.heap.size)) 129 [(0, vr g 94), (2, vi v2), (3, vi v3), (5, vi v5), (6, vi v6)] [] σ := by
                intro v5 v6 h5 h6 hF
                unfold F_X12_steps_J129 at hF
                refine at_iload (pc := 129) C 4 dX12_steps_129 rfl ?_
                refine at_istore (pc := 131) (lv' := [(4, vi v6), (0, vr g 94), (2, vi v2), (3, vi v3), (5, vi v5), (6, vi v6)]) C dX12_steps_131 (Nat.le_of_ble_eq_true rfl) rfl ?_
                refine at_iinc (pc := 133) (lv' := [(5, vi (ja v5 1)), (4, vi v6), (0, vr g 94), (2, vi v2), (3, vi v3), (6, vi v6)]) C 4 dX12_steps_133 rfl (Nat.le_of_ble_eq_true rfl) rfl ?_
                refine at_goto (pc := 136) (tgt := 31) C dX12_steps_136 rfl ?_
                refine at_sub (lv' := [(0, vr g 94), (2, vi v2), (3, vi v3), (4, vi v6), (5, vi (ja v5 1))]) [2, 3, 4, 1, 0] rfl ?_
                exact ih31 _ hF h6 (ja_R v5 1)
              refine at_iload (pc := 57) C 6 dX12_steps_57 rfl ?_
              refine at_aload_n (pc := 59) C 0 dX12_steps_59 rfl rfl ?_
              refine at_geti (pc := 60) (jz := 11) C fw_12_132 kd94 rfl (Nat.le_of_ble_eq_true rfl) rfl rfl dX12_steps_60 ?_
              refine at_icmp_ge (pc := 63) (tgt := 129) C h7 (ok 94 11) dX12_steps_63 rfl (fun c7 => ?_) (fun c7 => ?_)
              · have hF := (if_pos c7).symm.trans hF
                refine at_sub (lv' := [(0, vr g 94), (2, vi v2), (3, vi v3), (5, vi v5), (6, vi v6)]) [0, 1, 2, 4, 5] rfl ?_
                exact J129 v5 v6 h5 h6 hF
              · have hF := (if_neg c7).symm.trans hF
                refine at_iload (pc := 66) C 6 dX12_steps_66 rfl ?_
                refine at_iconst (pc := 68) C dX12_steps_68 ?_
                refine at_iadd (pc := 69) C dX12_steps_69 ?_
                refine at_istore (pc := 70) (lv' := [(8, vi (ja v7 1)), (0, vr g 94), (2, vi v2), (3, vi v3), (4, vi v4), (5, vi v5), (6, vi v6), (7, vi v7)]) C dX12_steps_70 (Nat.le_of_ble_eq_true rfl) rfl ?_
                have L72 : ∀ (v6 : Int) (v7 : Int) (v8 : Int), inR v6 → inR v7 → inR v8 → loopK (fun q nx72 => F_X12_steps_B72 N nx31 nx57 nx72 v2 v3 v4 v5 v7 q.1 q.2 σ) N (v6, v8) = some res → At p l e rm_X12_steps s m args below meth c 0 0 g 9 (MQ below (QI g s.heap.size res.1 res.2 inR) args s 0 0 (AA g s.heap.size)) 72 [(0, vr g 94), (2, vi v2), (3, vi v3), (4, vi v4), (5, vi v5), (6, vi v6), (7, vi v7), (8, vi v8)] [] σ := by
                  intro v6 v7 v8 h6 h7 h8 hF
                  refine loopK_ind (res := res) (P := fun (q : Int × Int) => inR q.1 → inR q.2 → At p l e rm_X12_steps s m args below meth c 0 0 g 9 (MQ below (QI g s.heap.size res.1 res.2 inR) args s 0 0 (AA g s.heap.size)) 72 [(0, vr g 94), (2, vi v2), (3, vi v3), (4, vi v4), (5, vi v5), (6, vi q.1), (7, vi v7), (8, vi q.2)] [] σ) ?_ N _ hF h6 h8
                  intro nx72 q ih72 hF
                  obtain ⟨v6, v8⟩ := q
                  intro h6 h8
                  have hF : F_X12_steps_B72 N nx31 nx57 nx72 v2 v3 v4 v5 v7 v6 v8 σ = some res := hF
                  unfold F_X12_steps_B72 at hF
                  have J123 : ∀ (v6 : Int) (v7 : Int), inR v6 → inR v7 → F_X12_steps_J123 N nx31 nx57 v2 v3 v4 v5 v6 v7 σ = some res → At p l e rm_X12_steps s m args below meth c 0 0 g 9 (MQ below (QI g s.heap.size res.1 res.2 inR) args s 0 0 (AA g s.heap.size)) 123 [(0, vr g 94), (2, vi v2), (3, vi v3), (4, vi v4), (5, vi v5), (6, vi v6), (7, vi v7)] [] σ := by
                    intro v6 v7 h6 h7 hF
                    unfold F_X12_steps_J123 at hF
                    refine at_iinc (pc := 123) (lv' := [(7, vi (ja v7 1)), (0, vr g 94), (2, vi v2), (3, vi v3), (4, vi v4), (5, vi v5), (6, vi v6)]) C 6 dX12_steps_123 rfl (Nat.le_of_ble_eq_true rfl) rfl ?_
                    refine at_goto (pc := 126) (tgt := 57) C dX12_steps_126 rfl ?_
                    refine at_sub (lv' := [(0, vr g 94), (2, vi v2), (3, vi v3), (4, vi v4), (5, vi v5), (6, vi v6), (7, vi (ja v7 1))]) [1, 2, 3, 4, 5, 6, 0] rfl ?_
                    exact ih57 _ hF h6 (ja_R v7 1)
                  refine at_iload (pc := 72) C 7 dX12_steps_72 rfl ?_
                  refine at_aload_n (pc := 74) C 0 dX12_steps_74 rfl rfl ?_
                  refine at_geti (pc := 75) (jz := 11) C fw_12_132 kd94 rfl (Nat.le_of_ble_eq_true rfl) rfl rfl dX12_steps_75 ?_
                  refine at_icmp_ge (pc := 78) (tgt := 123) C h8 (ok 94 11) dX12_steps_78 rfl (fun c8 => ?_) (fun c8 => ?_)
                  · have hF := (if_pos c8).symm.trans hF
                    refine at_sub (lv' := [(0, vr g 94), (2, vi v2), (3, vi v3), (4, vi v4), (5, vi v5), (6, vi v6), (7, vi v7)]) [0, 1, 2, 3, 4, 5, 6] rfl ?_
                    exact J123 v6 v7 h6 h7 hF
                  · have hF := (if_neg c8).symm.trans hF
                    have J114 : ∀ (v8 : Int) (t0 : Int) (t1 : Int), inR v8 → inR t0 → inR t1 → F_X12_steps_J114 N nx31 nx57 nx72 v2 v3 v4 v5 v7 v8 t0 t1 σ = some res → At p l e rm_X12_steps s m args below meth c 0 0 g 9 (MQ below (QI g s.heap.size res.1 res.2 inR) args s 0 0 (AA g s.heap.size)) 114 [(0, vr g 94), (2, vi v2), (3, vi v3), (4, vi v4), (5, vi v5), (7, vi v7), (8, vi v8)] [vi t1, vi t0] σ := by
                      intro v8 t0 t1 h8 ht0 ht1 hF
                      unfold F_X12_steps_J114 at hF
                      refine at_ior (pc := 114) C dX12_steps_114 ?_
                      refine at_istore (pc := 115) (lv' := [(6, vi (jor t0 t1)), (0, vr g 94), (2, vi v2), (3, vi v3), (4, vi v4), (5, vi v5), (7, vi v7), (8, vi v8)]) C dX12_steps_115 (Nat.le_of_ble_eq_true rfl) rfl ?_
                      refine at_iinc (pc := 117) (lv' := [(8, vi (ja v8 1)), (6, vi (jor t0 t1)), (0, vr g 94), (2, vi v2), (3, vi v3), (4, vi v4), (5, vi v5), (7, vi v7)]) C 7 dX12_steps_117 rfl (Nat.le_of_ble_eq_true rfl) rfl ?_
                      refine at_goto (pc := 120) (tgt := 72) C dX12_steps_120 rfl ?_
                      refine at_sub (lv' := [(0, vr g 94), (2, vi v2), (3, vi v3), (4, vi v4), (5, vi v5), (6, vi (jor t0 t1)), (7, vi v7), (8, vi (ja v8 1))]) [2, 3, 4, 5, 6, 1, 7, 0] rfl ?_
                      exact ih72 _ hF (jor_R t0 t1) (ja_R v8 1)
                    have J113 : ∀ (v8 : Int) (t0 : Int), inR v8 → inR t0 → F_X12_steps_J113 N nx31 nx57 nx72 v2 v3 v4 v5 v7 v8 t0 σ = some res → At p l e rm_X12_steps s m args below meth c 0 0 g 9 (MQ below (QI g s.heap.size res.1 res.2 inR) args s 0 0 (AA g s.heap.size)) 113 [(0, vr g 94), (2, vi v2), (3, vi v3), (4, vi v4), (5, vi v5), (7, vi v7), (8, vi v8)] [vi t0] σ := by
                      intro v8 t0 h8 ht0 hF
                      unfold F_X12_steps_J113 at hF
                      refine at_iconst (pc := 113) C dX12_steps_113 ?_
                      exact J114 v8 t0 0 h8 ht0 (isB.r (Or.inl rfl)) hF
                    refine at_iload (pc := 81) C 5 dX12_steps_81 rfl ?_
                    refine at_iload (pc := 83) C 3 dX12_steps_83 rfl ?_
                    refine at_iload (pc := 85) C 6 dX12_steps_85 rfl ?_
                    refine at_ishr (pc := 87) C dX12_steps_87 ?_
                    refine at_iconst (pc := 88) C dX12_steps_88 ?_
                    refine at_iand (pc := 89) C dX12_steps_89 ?_
                    refine at_iconst (pc := 90) C dX12_steps_90 ?_
                    refine at_icmp_ne (pc := 91) (tgt := 113) C (jand_R (jshr v4 v7) 1) (isB.r (Or.inr rfl)) dX12_steps_91 rfl (fun c9 => ?_) (fun c9 => ?_)
                    · have hF := (if_neg c9).symm.trans hF
                      refine at_sub (lv' := [(0, vr g 94), (2, vi v2), (3, vi v3), (4, vi v4), (5, vi v5), (7, vi v7), (8, vi v8)]) [0, 1, 2, 3, 4, 6, 7] rfl ?_
                      exact J113 v8 v6 h8 h6 hF
                    · have hF := (if_pos c9).symm.trans hF
                      refine at_aload_n (pc := 94) C 0 dX12_steps_94 rfl rfl ?_
                      refine at_iload (pc := 95) C 6 dX12_steps_95 rfl ?_
                      refine at_iload (pc := 97) C 7 dX12_steps_97 rfl ?_
                      refine at_iload_n (pc := 99) C 2 dX12_steps_99 rfl rfl ?_
                      obtain ⟨q10, eq10, hF⟩ := bind_some' hF
                      refine at_callV (pc := 100) (ci := 12) C (c_X12_percentOf l g N v7 v8 v3 σ q10 h7 h8 h3 ok eq10) kv_X12_percentOf w1613 kd94 rfl rfl rfl rfl (Nat.le_of_ble_eq_true rfl) ⟨rfl, rfl, (Nat.le_of_ble_eq_true rfl), (Nat.le_of_ble_eq_true rfl)⟩ dX12_steps_100 (fun tq10 okq10 => ?_)
                      refine at_if_le (pc := 103) (tgt := 113) C tq10 dX12_steps_103 rfl (fun c11 => ?_) (fun c11 => ?_)
                      · have hF := (if_pos c11).symm.trans hF
                        refine at_sub (lv' := [(0, vr g 94), (2, vi v2), (3, vi v3), (4, vi v4), (5, vi v5), (7, vi v7), (8, vi v8)]) [0, 1, 2, 3, 4, 6, 7] rfl ?_
                        exact J113 v8 v6 h8 h6 hF
                      · have hF := (if_neg c11).symm.trans hF
                        refine at_iconst (pc := 106) C dX12_steps_106 ?_
                        refine at_iload (pc := 107) C 7 dX12_steps_107 rfl ?_
                        refine at_ishl (pc := 109) C dX12_steps_109 ?_
                        refine at_goto (pc := 110) (tgt := 114) C dX12_steps_110 rfl ?_
                        refine at_sub (lv' := [(0, vr g 94), (2, vi v2), (3, vi v3), (4, vi v4), (5, vi v5), (7, vi v7), (8, vi v8)]) [0, 1, 2, 3, 4, 6, 7] rfl ?_
                        exact J114 v8 v6 (jshl 1 v8) h8 h6 (jshl_R 1 v8) hF
                refine at_sub (lv' := [(0, vr g 94), (2, vi v2), (3, vi v3), (4, vi v4), (5, vi v5), (6, vi v6), (7, vi v7), (8, vi (ja v7 1))]) [1, 2, 3, 4, 5, 6, 7, 0] rfl ?_
                exact L72 v6 v7 (ja v7 1) h6 h7 (ja_R v7 1) hF
            refine at_sub (lv' := [(0, vr g 94), (2, vi v2), (3, vi v3), (4, vi v4), (5, vi v5), (6, vi 0), (7, vi 0)]) [2, 3, 4, 5, 6, 1, 0] rfl ?_
            exact L57 v4 v5 0 0 h4 h5 (isB.r (Or.inl rfl)) (isB.r (Or.inl rfl)) hF
          · have hF := (if_pos c6).symm.trans hF
            refine at_iload (pc := 48) C 4 dX12_steps_48 rfl ?_
            obtain rfl := Option.some.inj hF
            exact at_iret (pc := 50) C hr hlk h5 ok dX12_steps_50
      refine at_sub (lv' := [(0, vr g 94), (2, vi v2), (3, vi v3), (4, vi (jshl 1 v1)), (5, vi 0)]) [2, 4, 5, 1, 0] rfl ?_
      exact L31 v2 v3 (jshl 1 v1) 0 (upI σ 94 2 0) h2 h3 (jshl_R 1 v1) (isB.r (Or.inl rfl)) (OK_up (k := 94) (j := 2) ok (isB.r (Or.inl rfl))) hF
    · have hF := (if_pos c4).symm.trans hF
      refine at_iconst (pc := 21) C dX12_steps_21 ?_
      obtain rfl := Option.some.inj hF
      exact at_iret (pc := 22) C hr hlk (show inR (-1) from ⟨by decide, by decide⟩) (OK_up (k := 94) (j := 2) ok (isB.r (Or.inl rfl))) dX12_steps_22
abbrev rm_X12_byGate : Room := { frames := 6, cells := 0, slots := 0, locals := 143 }
def F_X12_byGate (N : Nat) (v1 : Int) (σ : Sto) : Option (Int × Sto) :=
  (F_X12_isIn N v1 1 100 (upI σ 94 2 0)).bind (fun q1 => if q1 = 0 then (some ((-1), (upI σ 94 2 0))) else ((F_X12_byGateOf N v1 (upI σ 94 2 0)).bind (fun q3 => some (q3.1, q3.2))))
set_option maxHeartbeats 4000000 in
set_option maxRecDepth 100000 in
theorem c_X12_byGate (l : Launch) (g : Geo) (N : Nat) (v1 : Int) (σ : Sto) (res : Int × Sto) (h1 : inR v1) (ok : OK σ) (hF : F_X12_byGate N v1 σ = some res) : MtI l g yX12_byGate cX12_byGate 2 (some .int) rm_X12_byGate [vr g 94, vi v1] σ res.1 res.2 inR := by
  intro sz
  refine Met.ofAt (own := RX12) (QQ := fun z => QI g z res.1 res.2 inR) (by decide +kernel) (Nat.le_of_ble_eq_true rfl) rfl ?_
  intro p e s m args below meth c C hr hlk
  show At p l e rm_X12_byGate s m args below meth c 0 0 g 2 (MQ below (QI g s.heap.size res.1 res.2 inR) args s 0 0 (AA g s.heap.size)) 0 [(0, vr g 94), (1, vi v1)] [] σ
  unfold F_X12_byGate at hF
  refine at_aload_n (pc := 0) C 0 dX12_byGate_0 rfl rfl ?_
  refine at_iconst (pc := 1) C dX12_byGate_1 ?_
  refine at_puti (pc := 2) (jz := 2) C fu_12_81 kd94 rfl (Nat.le_of_ble_eq_true rfl) rfl rfl dX12_byGate_2 ?_
  refine at_iload_n (pc := 5) C 1 dX12_byGate_5 rfl rfl ?_
  refine at_iconst (pc := 6) C dX12_byGate_6 ?_
  refine at_bipush (pc := 7) C dX12_byGate_7 (by decide) ?_
  obtain ⟨q1, eq1, hF⟩ := bind_some' hF
  refine at_callS (pc := 9) C (c_X12_isIn l g N v1 1 100 (upI σ 94 2 0) q1 h1 (isB.r (Or.inr rfl)) (show inR 100 from ⟨by decide, by decide⟩) (OK_up (k := 94) (j := 2) ok (isB.r (Or.inl rfl))) eq1) ks_X12_isIn w1525 rfl rfl (Nat.le_of_ble_eq_true rfl) ⟨rfl, rfl, (Nat.le_of_ble_eq_true rfl), (Nat.le_of_ble_eq_true rfl)⟩ dX12_byGate_9 (fun tq1 okq1 => ?_)
  refine at_if_eq (pc := 12) (tgt := 23) C (isB.r tq1) dX12_byGate_12 rfl (fun c2 => ?_) (fun c2 => ?_)
  · have hF := (if_pos c2).symm.trans hF
    refine at_iconst (pc := 23) C dX12_byGate_23 ?_
    obtain rfl := Option.some.inj hF
    exact at_iret (pc := 24) C hr hlk (show inR (-1) from ⟨by decide, by decide⟩) (OK_up (k := 94) (j := 2) ok (isB.r (Or.inl rfl))) dX12_byGate_24
  · have hF := (if_neg c2).symm.trans hF
    refine at_aload_n (pc := 15) C 0 dX12_byGate_15 rfl rfl ?_
    refine at_iload_n (pc := 16) C 1 dX12_byGate_16 rfl rfl ?_
    obtain ⟨q3, eq3, hF⟩ := bind_some' hF
    refine at_callV (pc := 17) (ci := 12) C (c_X12_byGateOf l g N v1 (upI σ 94 2 0) q3 h1 (OK_up (k := 94) (j := 2) ok (isB.r (Or.inl rfl))) eq3) kv_X12_byGateOf w1877 kd94 rfl rfl rfl rfl (Nat.le_of_ble_eq_true rfl) ⟨rfl, rfl, (Nat.le_of_ble_eq_true rfl), (Nat.le_of_ble_eq_true rfl)⟩ dX12_byGate_17 (fun tq3 okq3 => ?_)
    refine at_goto (pc := 20) (tgt := 24) C dX12_byGate_20 rfl ?_
    obtain rfl := Option.some.inj hF
    exact at_iret (pc := 24) C hr hlk tq3 okq3 dX12_byGate_24
abbrev rm_X12_gateFor : Room := { frames := 6, cells := 0, slots := 0, locals := 143 }
def F_X12_gateFor_B21 (N : Nat) (nx21 : (Int × Sto) → Option (Int × Sto)) (v1 : Int) (v2 : Int) (σ : Sto) : Option (Int × Sto) :=
  if v2 ≤ 0 then (some ((-2), σ)) else ((F_X12_byGateOf N v2 σ).bind (fun q4 => if q4.1 < v1 then (nx21 ((js v2 1), q4.2)) else (some (v2, q4.2))))
def F_X12_gateFor (N : Nat) (v1 : Int) (σ : Sto) : Option (Int × Sto) :=
  (F_X12_isIn N v1 0 9999999 (upI σ 94 2 0)).bind (fun q1 => if q1 = 0 then (some ((-1), (upI σ 94 2 0))) else (loopK (fun q nx21 => F_X12_gateFor_B21 N  nx21 v1 q.1 q.2) N (100, (upI σ 94 2 0))))
set_option maxHeartbeats 4000000 in
set_option maxRecDepth 100000 in
theorem c_X12_gateFor (l : Launch) (g : Geo) (N : Nat) (v1 : Int) (σ : Sto) (res : Int × Sto) (h1 : inR v1) (ok : OK σ) (hF : F_X12_gateFor N v1 σ = some res) : MtI l g yX12_gateFor cX12_gateFor 3 (some .int) rm_X12_gateFor [vr g 94, vi v1] σ res.1 res.2 inR := by
  intro sz
  refine Met.ofAt (own := RX12) (QQ := fun z => QI g z res.1 res.2 inR) (by decide +kernel) (Nat.le_of_ble_eq_true rfl) rfl ?_
  intro p e s m args below meth c C hr hlk
  show At p l e rm_X12_gateFor s m args below meth c 0 0 g 3 (MQ below (QI g s.heap.size res.1 res.2 inR) args s 0 0 (AA g s.heap.size)) 0 [(0, vr g 94), (1, vi v1)] [] σ
  unfold F_X12_gateFor at hF
  refine at_aload_n (pc := 0) C 0 dX12_gateFor_0 rfl rfl ?_
  refine at_iconst (pc := 1) C dX12_gateFor_1 ?_
  refine at_puti (pc := 2) (jz := 2) C fu_12_81 kd94 rfl (Nat.le_of_ble_eq_true rfl) rfl rfl dX12_gateFor_2 ?_
  refine at_iload_n (pc := 5) C 1 dX12_gateFor_5 rfl rfl ?_
  refine at_iconst (pc := 6) C dX12_gateFor_6 ?_
  refine at_ldc_w (pc := 7) (n := 9999999) C dX12_gateFor_7 w1901 ?_
  obtain ⟨q1, eq1, hF⟩ := bind_some' hF
  refine at_callS (pc := 10) C (c_X12_isIn l g N v1 0 9999999 (upI σ 94 2 0) q1 h1 (isB.r (Or.inl rfl)) (show inR 9999999 from ⟨by decide, by decide⟩) (OK_up (k := 94) (j := 2) ok (isB.r (Or.inl rfl))) eq1) ks_X12_isIn w1525 rfl rfl (Nat.le_of_ble_eq_true rfl) ⟨rfl, rfl, (Nat.le_of_ble_eq_true rfl), (Nat.le_of_ble_eq_true rfl)⟩ dX12_gateFor_10 (fun tq1 okq1 => ?_)
  refine at_if_ne (pc := 13) (tgt := 18) C (isB.r tq1) dX12_gateFor_13 rfl (fun c2 => ?_) (fun c2 => ?_)
  · have hF := (if_neg c2).symm.trans hF
    refine at_bipush (pc := 18) C dX12_gateFor_18 (by decide) ?_
    refine at_istore_n (pc := 20) (lv' := [(2, vi 100), (0, vr g 94), (1, vi v1)]) C dX12_gateFor_20 rfl (Nat.le_of_ble_eq_true rfl) rfl ?_
    have L21 : ∀ (v1 : Int) (v2 : Int) (σ : Sto), inR v1 → inR v2 → OK σ → loopK (fun q nx21 => F_X12_gateFor_B21 N  nx21 v1 q.1 q.2) N (v2, σ) = some res → At p l e rm_X12_gateFor s m args below meth c 0 0 g 3 (MQ below (QI g s.heap.size res.1 res.2 inR) args s 0 0 (AA g s.heap.size)) 21 [(0, vr g 94), (1, vi v1), (2, vi v2)] [] σ := by
      intro v1 v2 σ h1 h2 ok hF
      refine loopK_ind (res := res) (P := fun (q : Int × Sto) => inR q.1 → OK q.2 → At p l e rm_X12_gateFor s m args below meth c 0 0 g 3 (MQ below (QI g s.heap.size res.1 res.2 inR) args s 0 0 (AA g s.heap.size)) 21 [(0, vr g 94), (1, vi v1), (2, vi q.1)] [] q.2) ?_ N _ hF h2 ok
      intro nx21 q ih21 hF
      obtain ⟨v2, σ⟩ := q
      intro h2 ok
      have hF : F_X12_gateFor_B21 N  nx21 v1 v2 σ = some res := hF
      unfold F_X12_gateFor_B21 at hF
      refine at_iload_n (pc := 21) C 2 dX12_gateFor_21 rfl rfl ?_
      refine at_if_le (pc := 22) (tgt := 42) C h2 dX12_gateFor_22 rfl (fun c3 => ?_) (fun c3 => ?_)
      · have hF := (if_pos c3).symm.trans hF
        refine at_bipush (pc := 42) C dX12_gateFor_42 (by decide) ?_
        obtain rfl := Option.some.inj hF
        exact at_iret (pc := 44) C hr hlk (show inR (-2) from ⟨by decide, by decide⟩) ok dX12_gateFor_44
      · have hF := (if_neg c3).symm.trans hF
        refine at_aload_n (pc := 25) C 0 dX12_gateFor_25 rfl rfl ?_
        refine at_iload_n (pc := 26) C 2 dX12_gateFor_26 rfl rfl ?_
        obtain ⟨q4, eq4, hF⟩ := bind_some' hF
        refine at_callV (pc := 27) (ci := 12) C (c_X12_byGateOf l g N v2 σ q4 h2 ok eq4) kv_X12_byGateOf w1877 kd94 rfl rfl rfl rfl (Nat.le_of_ble_eq_true rfl) ⟨rfl, rfl, (Nat.le_of_ble_eq_true rfl), (Nat.le_of_ble_eq_true rfl)⟩ dX12_gateFor_27 (fun tq4 okq4 => ?_)
        refine at_iload_n (pc := 30) C 1 dX12_gateFor_30 rfl rfl ?_
        refine at_icmp_lt (pc := 31) (tgt := 36) C tq4 h1 dX12_gateFor_31 rfl (fun c5 => ?_) (fun c5 => ?_)
        · have hF := (if_pos c5).symm.trans hF
          refine at_idec (pc := 36) (k := 1) (lv' := [(2, vi (js v2 1)), (0, vr g 94), (1, vi v1)]) C (by decide) 2 dX12_gateFor_36 rfl (Nat.le_of_ble_eq_true rfl) rfl ?_
          refine at_goto (pc := 39) (tgt := 21) C dX12_gateFor_39 rfl ?_
          refine at_sub (lv' := [(0, vr g 94), (1, vi v1), (2, vi (js v2 1))]) [1, 2, 0] rfl ?_
          exact ih21 _ hF (js_R v2 1) okq4
        · have hF := (if_neg c5).symm.trans hF
          refine at_iload_n (pc := 34) C 2 dX12_gateFor_34 rfl rfl ?_
          obtain rfl := Option.some.inj hF
          exact at_iret (pc := 35) C hr hlk h2 okq4 dX12_gateFor_35
    refine at_sub (lv' := [(0, vr g 94), (1, vi v1), (2, vi 100)]) [1, 2, 0] rfl ?_
    exact L21 v1 100 (upI σ 94 2 0) h1 (show inR 100 from ⟨by decide, by decide⟩) (OK_up (k := 94) (j := 2) ok (isB.r (Or.inl rfl))) hF
  · have hF := (if_pos c2).symm.trans hF
    refine at_iconst (pc := 16) C dX12_gateFor_16 ?_
    obtain rfl := Option.some.inj hF
    exact at_iret (pc := 17) C hr hlk (show inR (-1) from ⟨by decide, by decide⟩) (OK_up (k := 94) (j := 2) ok (isB.r (Or.inl rfl))) dX12_gateFor_17
abbrev rm_X12_days : Room := { frames := 4, cells := 0, slots := 0, locals := 97 }
def F_X12_days_J129 (N : Nat) (nx63 : (Int × Int) → Option (Int × Sto)) (v1 : Int) (v2 : Int) (v3 : Int) (v4 : Int) (v5 : Int) (σ : Sto) : Option (Int × Sto) :=
  nx63 (v4, (ja v5 1))
def F_X12_days_B63 (N : Nat) (nx63 : (Int × Int) → Option (Int × Sto)) (v1 : Int) (v2 : Int) (v3 : Int) (v4 : Int) (v5 : Int) (σ : Sto) : Option (Int × Sto) :=
  if (σ.1 94 30) ≤ v5 then (some (v4, σ)) else (inb (ja (jm 8 v5) v1) 208 (if (jand (jshr (σ.1 104 (ja (jm 8 v5) v1)) v2) 1) = 0 then (F_X12_days_J129 N nx63 v1 v2 v3 v4 v5 σ) else (if v3 = 1 then (inb (ja v5 1) 26 (F_X12_days_J129 N nx63 v1 v2 v3 (js (σ.1 103 (ja v5 1)) 1) v5 σ)) else (if 0 ≤ v4 then (F_X12_days_J129 N nx63 v1 v2 v3 v4 v5 σ) else (inb v5 26 (F_X12_days_J129 N nx63 v1 v2 v3 (σ.1 103 v5) v5 σ))))))
def F_X12_days (N : Nat) (v1 : Int) (v2 : Int) (v3 : Int) (σ : Sto) : Option (Int × Sto) :=
  (F_X12_areMembers N v1 v2 (upI σ 94 2 0)).bind (fun q1 => if q1 = 0 then (some ((-1), (upI σ 94 2 0))) else (if v1 = v2 then (some ((-1), (upI σ 94 2 0))) else ((F_X12_isIn N v3 0 2 (upI σ 94 2 0)).bind (fun q4 => if q4 = 0 then (some ((-1), (upI σ 94 2 0))) else (inb 0 8 ((F_X12_laysStretches N ((upI σ 94 2 0).1 100 0) (upI σ 94 2 0)).bind (fun q7 => if v3 = 2 then ((F_X12_daysOf N v1 v2 0 999 q7).bind (fun q16 => some (q16, q7))) else (loopK (fun q nx63 => F_X12_days_B63 N  nx63 v1 v2 v3 q.1 q.2 q7) N ((-2), 0)))))))))
set_option maxHeartbeats 4000000 in
set_option maxRecDepth 100000 in
theorem c_X12_days (l : Launch) (g : Geo) (N : Nat) (v1 : Int) (v2 : Int) (v3 : Int) (σ : Sto) (res : Int × Sto) (h1 : inR v1) (h2 : inR v2) (h3 : inR v3) (ok : OK σ) (hF : F_X12_days N v1 v2 v3 σ = some res) : MtI l g yX12_days cX12_days 6 (some .int) rm_X12_days [vr g 94, vi v1, vi v2, vi v3] σ res.1 res.2 inR := by
  intro sz
  refine Met.ofAt (own := RX12) (QQ := fun z => QI g z res.1 res.2 inR) (by decide +kernel) (Nat.le_of_ble_eq_true rfl) rfl ?_
  intro p e s m args below meth c C hr hlk
  show At p l e rm_X12_days s m args below meth c 0 0 g 6 (MQ below (QI g s.heap.size res.1 res.2 inR) args s 0 0 (AA g s.heap.size)) 0 [(0, vr g 94), (1, vi v1), (2, vi v2), (3, vi v3)] [] σ
  unfold F_X12_days at hF
  refine at_aload_n (pc := 0) C 0 dX12_days_0 rfl rfl ?_
  refine at_iconst (pc := 1) C dX12_days_1 ?_
  refine at_puti (pc := 2) (jz := 2) C fu_12_81 kd94 rfl (Nat.le_of_ble_eq_true rfl) rfl rfl dX12_days_2 ?_
  refine at_aload_n (pc := 5) C 0 dX12_days_5 rfl rfl ?_
  refine at_iload_n (pc := 6) C 1 dX12_days_6 rfl rfl ?_
  refine at_iload_n (pc := 7) C 2 dX12_days_7 rfl rfl ?_
  obtain ⟨q1, eq1, hF⟩ := bind_some' hF
  refine at_callV (pc := 8) (ci := 12) C (c_X12_areMembers l g N v1 v2 (upI σ 94 2 0) q1 h1 h2 (OK_up (k := 94) (j := 2) ok (isB.r (Or.inl rfl))) eq1) kv_X12_areMembers w1755 kd94 rfl rfl rfl rfl (Nat.le_of_ble_eq_true rfl) ⟨rfl, rfl, (Nat.le_of_ble_eq_true rfl), (Nat.le_of_ble_eq_true rfl)⟩ dX12_days_8 (fun tq1 okq1 => ?_)
  refine at_if_eq (pc := 11) (tgt := 28) C (isB.r tq1) dX12_days_11 rfl (fun c2 => ?_) (fun c2 => ?_)
  · have hF := (if_pos c2).symm.trans hF
    refine at_iconst (pc := 28) C dX12_days_28 ?_
    obtain rfl := Option.some.inj hF
    exact at_iret (pc := 29) C hr hlk (show inR (-1) from ⟨by decide, by decide⟩) (OK_up (k := 94) (j := 2) ok (isB.r (Or.inl rfl))) dX12_days_29
  · have hF := (if_neg c2).symm.trans hF
    refine at_iload_n (pc := 14) C 1 dX12_days_14 rfl rfl ?_
    refine at_iload_n (pc := 15) C 2 dX12_days_15 rfl rfl ?_
    refine at_icmp_eq (pc := 16) (tgt := 28) C h1 h2 dX12_days_16 rfl (fun c3 => ?_) (fun c3 => ?_)
    · have hF := (if_pos c3).symm.trans hF
      refine at_iconst (pc := 28) C dX12_days_28 ?_
      obtain rfl := Option.some.inj hF
      exact at_iret (pc := 29) C hr hlk (show inR (-1) from ⟨by decide, by decide⟩) (OK_up (k := 94) (j := 2) ok (isB.r (Or.inl rfl))) dX12_days_29
    · have hF := (if_neg c3).symm.trans hF
      refine at_iload_n (pc := 19) C 3 dX12_days_19 rfl rfl ?_
      refine at_iconst (pc := 20) C dX12_days_20 ?_
      refine at_iconst (pc := 21) C dX12_days_21 ?_
      obtain ⟨q4, eq4, hF⟩ := bind_some' hF
      refine at_callS (pc := 22) C (c_X12_isIn l g N v3 0 2 (upI σ 94 2 0) q4 h3 (isB.r (Or.inl rfl)) (show inR 2 from ⟨by decide, by decide⟩) (OK_up (k := 94) (j := 2) ok (isB.r (Or.inl rfl))) eq4) ks_X12_isIn w1525 rfl rfl (Nat.le_of_ble_eq_true rfl) ⟨rfl, rfl, (Nat.le_of_ble_eq_true rfl), (Nat.le_of_ble_eq_true rfl)⟩ dX12_days_22 (fun tq4 okq4 => ?_)
      refine at_if_ne (pc := 25) (tgt := 30) C (isB.r tq4) dX12_days_25 rfl (fun c5 => ?_) (fun c5 => ?_)
      · have hF := (if_neg c5).symm.trans hF
        refine at_aload_n (pc := 30) C 0 dX12_days_30 rfl rfl ?_
        refine at_aload_n (pc := 31) C 0 dX12_days_31 rfl rfl ?_
        refine at_getr (pc := 32) (k' := 100) C 6 fw_12_29 kd94 rfl (Nat.le_of_ble_eq_true rfl) rfl rfl dX12_days_32 ?_
        refine at_iconst (pc := 35) C dX12_days_35 ?_
        obtain ⟨b6, hF⟩ := inb_some hF
        refine at_iaload (pc := 36) C kd100 b6 dX12_days_36 ?_
        obtain ⟨q7, eq7, hF⟩ := bind_some' hF
        refine at_callVv (pc := 37) (ci := 12) C (c_X12_laysStretches l g N ((upI σ 94 2 0).1 100 0) (upI σ 94 2 0) q7 ((OK_up (k := 94) (j := 2) ok (isB.r (Or.inl rfl))) 100 0) (OK_up (k := 94) (j := 2) ok (isB.r (Or.inl rfl))) eq7) kv_X12_laysStretches w1605 kd94 rfl rfl rfl rfl (Nat.le_of_ble_eq_true rfl) ⟨rfl, rfl, (Nat.le_of_ble_eq_true rfl), (Nat.le_of_ble_eq_true rfl)⟩ dX12_days_37 (fun okq7 => ?_)
        refine at_iload_n (pc := 40) C 3 dX12_days_40 rfl rfl ?_
        refine at_iconst (pc := 41) C dX12_days_41 ?_
        refine at_icmp_ne (pc := 42) (tgt := 56) C h3 (show inR 2 from ⟨by decide, by decide⟩) dX12_days_42 rfl (fun c8 => ?_) (fun c8 => ?_)
        · have hF := (if_neg c8).symm.trans hF
          refine at_bipush (pc := 56) C dX12_days_56 (by decide) ?_
          refine at_istore (pc := 58) (lv' := [(4, vi (-2)), (0, vr g 94), (1, vi v1), (2, vi v2), (3, vi v3)]) C dX12_days_58 (Nat.le_of_ble_eq_true rfl) rfl ?_
          refine at_iconst (pc := 60) C dX12_days_60 ?_
          refine at_istore (pc := 61) (lv' := [(5, vi 0), (4, vi (-2)), (0, vr g 94), (1, vi v1), (2, vi v2), (3, vi v3)]) C dX12_days_61 (Nat.le_of_ble_eq_true rfl) rfl ?_
          have L63 : ∀ (v1 : Int) (v2 : Int) (v3 : Int) (v4 : Int) (v5 : Int) (σ : Sto), inR v1 → inR v2 → inR v3 → inR v4 → inR v5 → OK σ → loopK (fun q nx63 => F_X12_days_B63 N  nx63 v1 v2 v3 q.1 q.2 σ) N (v4, v5) = some res → At p l e rm_X12_days s m args below meth c 0 0 g 6 (MQ below (QI g s.heap.size res.1 res.2 inR) args s 0 0 (AA g s.heap.size)) 63 [(0, vr g 94), (1, vi v1), (2, vi v2), (3, vi v3), (4, vi v4), (5, vi v5)] [] σ := by
            intro v1 v2 v3 v4 v5 σ h1 h2 h3 h4 h5 ok hF
            refine loopK_ind (res := res) (P := fun (q : Int × Int) => inR q.1 → inR q.2 → At p l e rm_X12_days s m args below meth c 0 0 g 6 (MQ below (QI g s.heap.size res.1 res.2 inR) args s 0 0 (AA g s.heap.size)) 63 [(0, vr g 94), (1, vi v1), (2, vi v2), (3, vi v3), (4, vi q.1), (5, vi q.2)] [] σ) ?_ N _ hF h4 h5
            intro nx63 q ih63 hF
            obtain ⟨v4, v5⟩ := q
            intro h4 h5
            have hF : F_X12_days_B63 N  nx63 v1 v2 v3 v4 v5 σ = some res := hF
            unfold F_X12_days_B63 at hF
            refine at_iload (pc := 63) C 5 dX12_days_63 rfl ?_
            refine at_aload_n (pc := 65) C 0 dX12_days_65 rfl rfl ?_
            refine at_geti (pc := 66) (jz := 30) C fw_12_220 kd94 rfl (Nat.le_of_ble_eq_true rfl) rfl rfl dX12_days_66 ?_
            refine at_icmp_ge (pc := 69) (tgt := 135) C h5 (ok 94 30) dX12_days_69 rfl (fun c9 => ?_) (fun c9 => ?_)
            · have hF := (if_pos c9).symm.trans hF
              refine at_iload (pc := 135) C 4 dX12_days_135 rfl ?_
              obtain rfl := Option.some.inj hF
              exact at_iret (pc := 137) C hr hlk h4 ok dX12_days_137
            · have hF := (if_neg c9).symm.trans hF
              have J129 : ∀ (v4 : Int) (v5 : Int), inR v4 → inR v5 → F_X12_days_J129 N nx63 v1 v2 v3 v4 v5 σ = some res → At p l e rm_X12_days s m args below meth c 0 0 g 6 (MQ below (QI g s.heap.size res.1 res.2 inR) args s 0 0 (AA g s.heap.size)) 129 [(0, vr g 94), (1, vi v1), (2, vi v2), (3, vi v3), (4, vi v4), (5, vi v5)] [] σ := by
                intro v4 v5 h4 h5 hF
                unfold F_X12_days_J129 at hF
                refine at_iinc (pc := 129) (lv' := [(5, vi (ja v5 1)), (0, vr g 94), (1, vi v1), (2, vi v2), (3, vi v3), (4, vi v4)]) C 5 dX12_days_129 rfl (Nat.le_of_ble_eq_true rfl) rfl ?_
                refine at_goto (pc := 132) (tgt := 63) C dX12_days_132 rfl ?_
                refine at_sub (lv' := [(0, vr g 94), (1, vi v1), (2, vi v2), (3, vi v3), (4, vi v4), (5, vi (ja v5 1))]) [1, 2, 3, 4, 5, 0] rfl ?_
                exact ih63 _ hF h4 (ja_R v5 1)
              refine at_aload_n (pc := 72) C 0 dX12_days_72 rfl rfl ?_
              refine at_getr (pc := 73) (k' := 104) C 10 fw_12_42 kd94 rfl (Nat.le_of_ble_eq_true rfl) rfl rfl dX12_days_73 ?_
              refine at_bipush (pc := 76) C dX12_days_76 (by decide) ?_
              refine at_iload (pc := 78) C 5 dX12_days_78 rfl ?_
              refine at_imul (pc := 80) C dX12_days_80 ?_
              refine at_iload_n (pc := 81) C 1 dX12_days_81 rfl rfl ?_
              refine at_iadd (pc := 82) C dX12_days_82 ?_
              obtain ⟨b10, hF⟩ := inb_some hF
              refine at_iaload (pc := 83) C kd104 b10 dX12_days_83 ?_
              refine at_iload_n (pc := 84) C 2 dX12_days_84 rfl rfl ?_
              refine at_ishr (pc := 85) C dX12_days_85 ?_
              refine at_iconst (pc := 86) C dX12_days_86 ?_
              refine at_iand (pc := 87) C dX12_days_87 ?_
              refine at_if_ne (pc := 88) (tgt := 94) C (jand_R (jshr (σ.1 104 (ja (jm 8 v5) v1)) v2) 1) dX12_days_88 rfl (fun c11 => ?_) (fun c11 => ?_)
              · have hF := (if_neg c11).symm.trans hF
                refine at_iload_n (pc := 94) C 3 dX12_days_94 rfl rfl ?_
                refine at_iconst (pc := 95) C dX12_days_95 ?_
                refine at_icmp_ne (pc := 96) (tgt := 115) C h3 (isB.r (Or.inr rfl)) dX12_days_96 rfl (fun c12 => ?_) (fun c12 => ?_)
                · have hF := (if_neg c12).symm.trans hF
                  refine at_iload (pc := 115) C 4 dX12_days_115 rfl ?_
                  refine at_if_ge (pc := 117) (tgt := 129) C h4 dX12_days_117 rfl (fun c13 => ?_) (fun c13 => ?_)
                  · have hF := (if_pos c13).symm.trans hF
                    exact J129 v4 v5 h4 h5 hF
                  · have hF := (if_neg c13).symm.trans hF
                    refine at_aload_n (pc := 120) C 0 dX12_days_120 rfl rfl ?_
                    refine at_getr (pc := 121) (k' := 103) C 9 fw_12_39 kd94 rfl (Nat.le_of_ble_eq_true rfl) rfl rfl dX12_days_121 ?_
                    refine at_iload (pc := 124) C 5 dX12_days_124 rfl ?_
                    obtain ⟨b14, hF⟩ := inb_some hF
                    refine at_iaload (pc := 126) C kd103 b14 dX12_days_126 ?_
                    refine at_istore (pc := 127) (lv' := [(4, vi (σ.1 103 v5)), (0, vr g 94), (1, vi v1), (2, vi v2), (3, vi v3), (5, vi v5)]) C dX12_days_127 (Nat.le_of_ble_eq_true rfl) rfl ?_
                    refine at_sub (lv' := [(0, vr g 94), (1, vi v1), (2, vi v2), (3, vi v3), (4, vi (σ.1 103 v5)), (5, vi v5)]) [1, 2, 3, 4, 0, 5] rfl ?_
                    exact J129 (σ.1 103 v5) v5 (ok 103 v5) h5 hF
                · have hF := (if_pos c12).symm.trans hF
                  refine at_aload_n (pc := 99) C 0 dX12_days_99 rfl rfl ?_
                  refine at_getr (pc := 100) (k' := 103) C 9 fw_12_39 kd94 rfl (Nat.le_of_ble_eq_true rfl) rfl rfl dX12_days_100 ?_
                  refine at_iload (pc := 103) C 5 dX12_days_103 rfl ?_
                  refine at_iconst (pc := 105) C dX12_days_105 ?_
                  refine at_iadd (pc := 106) C dX12_days_106 ?_
                  obtain ⟨b15, hF⟩ := inb_some hF
                  refine at_iaload (pc := 107) C kd103 b15 dX12_days_107 ?_
                  refine at_iconst (pc := 108) C dX12_days_108 ?_
                  refine at_isub (pc := 109) C dX12_days_109 ?_
                  refine at_istore (pc := 110) (lv' := [(4, vi (js (σ.1 103 (ja v5 1)) 1)), (0, vr g 94), (1, vi v1), (2, vi v2), (3, vi v3), (5, vi v5)]) C dX12_days_110 (Nat.le_of_ble_eq_true rfl) rfl ?_
                  refine at_goto (pc := 112) (tgt := 129) C dX12_days_112 rfl ?_
                  refine at_sub (lv' := [(0, vr g 94), (1, vi v1), (2, vi v2), (3, vi v3), (4, vi (js (σ.1 103 (ja v5 1)) 1)), (5, vi v5)]) [1, 2, 3, 4, 0, 5] rfl ?_
                  exact J129 (js (σ.1 103 (ja v5 1)) 1) v5 (js_R (σ.1 103 (ja v5 1)) 1) h5 hF
              · have hF := (if_pos c11).symm.trans hF
                refine at_goto (pc := 91) (tgt := 129) C dX12_days_91 rfl ?_
                exact J129 v4 v5 h4 h5 hF
          refine at_sub (lv' := [(0, vr g 94), (1, vi v1), (2, vi v2), (3, vi v3), (4, vi (-2)), (5, vi 0)]) [2, 3, 4, 5, 1, 0] rfl ?_
          exact L63 v1 v2 v3 (-2) 0 q7 h1 h2 h3 (show inR (-2) from ⟨by decide, by decide⟩) (isB.r (Or.inl rfl)) okq7 hF
        · have hF := (if_pos c8).symm.trans hF
          refine at_aload_n (pc := 45) C 0 dX12_days_45 rfl rfl ?_
          refine at_iload_n (pc := 46) C 1 dX12_days_46 rfl rfl ?_
          refine at_iload_n (pc := 47) C 2 dX12_days_47 rfl rfl ?_
          refine at_iconst (pc := 48) C dX12_days_48 ?_
          refine at_sipush (pc := 49) C dX12_days_49 (by decide) ?_
          obtain ⟨q16, eq16, hF⟩ := bind_some' hF
          refine at_callV (pc := 52) (ci := 12) C (c_X12_daysOf l g N v1 v2 0 999 q7 q16 h1 h2 (isB.r (Or.inl rfl)) (show inR 999 from ⟨by decide, by decide⟩) okq7 eq16) kv_X12_daysOf w1638 kd94 rfl rfl rfl rfl (Nat.le_of_ble_eq_true rfl) ⟨rfl, rfl, (Nat.le_of_ble_eq_true rfl), (Nat.le_of_ble_eq_true rfl)⟩ dX12_days_52 (fun tq16 okq16 => ?_)
          obtain rfl := Option.some.inj hF
          exact at_iret (pc := 55) C hr hlk tq16 okq7 dX12_days_55
      · have hF := (if_pos c5).symm.trans hF
        refine at_iconst (pc := 28) C dX12_days_28 ?_
        obtain rfl := Option.some.inj hF
        exact at_iret (pc := 29) C hr hlk (show inR (-1) from ⟨by decide, by decide⟩) (OK_up (k := 94) (j := 2) ok (isB.r (Or.inl rfl))) dX12_days_29
abbrev rm_X12_ifFirst : Room := { frames := 5, cells := 0, slots := 0, locals := 122 }
def F_X12_ifFirst_J87 (N : Nat)  (v1 : Int) (v2 : Int) (σ : Sto) : Option (Int × Sto) :=
  inb 0 8 ((F_X12_laysAll N ((upI (upI σ 94 31 v1) 94 32 v2).1 100 0) 0 (upI (upI σ 94 31 v1) 94 32 v2)).bind (fun q7 => (F_X12_relieves N (upI q7 94 31 (-1))).bind (fun q8 => some (q8.1, q8.2))))
def F_X12_ifFirst_J81 (N : Nat) (nx30 : (Int) → Option (Int × Sto)) (v1 : Int) (v2 : Int) (v3 : Int) (σ : Sto) : Option (Int × Sto) :=
  nx30 (ja v3 1)
def F_X12_ifFirst_B30 (N : Nat) (nx30 : (Int) → Option (Int × Sto)) (v1 : Int) (v2 : Int) (v3 : Int) (σ : Sto) : Option (Int × Sto) :=
  if (σ.1 94 14) ≤ v3 then (F_X12_ifFirst_J87 N  v1 v2 σ) else (if v3 = v1 then (F_X12_ifFirst_J81 N nx30 v1 v2 v3 σ) else ((F_X12_memberOf N v3 σ).bind (fun q11 => (F_X12_memberOf N v1 σ).bind (fun q12 => if q11 = q12 then ((F_X12_firstDay N v3 σ).bind (fun q14 => (F_X12_lastDay N v1 σ).bind (fun q15 => if q15 < q14 then (F_X12_ifFirst_J81 N nx30 v1 v2 v3 σ) else ((F_X12_lastDay N v3 σ).bind (fun q17 => if q17 < v2 then (F_X12_ifFirst_J81 N nx30 v1 v2 v3 σ) else (some ((-2), σ))))))) else (F_X12_ifFirst_J81 N nx30 v1 v2 v3 σ)))))
def F_X12_ifFirst (N : Nat) (v1 : Int) (v2 : Int) (σ : Sto) : Option (Int × Sto) :=
  (F_X12_isPeriod N v1 (upI σ 94 2 0)).bind (fun q1 => if q1 = 0 then (some ((-1), (upI σ 94 2 0))) else ((F_X12_lastDay N v1 (upI σ 94 2 0)).bind (fun q3 => (F_X12_isIn N v2 0 q3 (upI σ 94 2 0)).bind (fun q4 => if q4 = 0 then (some ((-1), (upI σ 94 2 0))) else (loopK (fun q nx30 => F_X12_ifFirst_B30 N  nx30 v1 v2 q (upI σ 94 2 0)) N 0)))))
set_option maxHeartbeats 4000000 in
set_option maxRecDepth 100000 in
theorem c_X12_ifFirst (l : Launch) (g : Geo) (N : Nat) (v1 : Int) (v2 : Int) (σ : Sto) (res : Int × Sto) (h1 : inR v1) (h2 : inR v2) (ok : OK σ) (hF : F_X12_ifFirst N v1 v2 σ = some res) : MtI l g yX12_ifFirst cX12_ifFirst 4 (some .int) rm_X12_ifFirst [vr g 94, vi v1, vi v2] σ res.1 res.2 inR := by
  intro sz
  refine Met.ofAt (own := RX12) (QQ := fun z => QI g z res.1 res.2 inR) (by decide +kernel) (Nat.le_of_ble_eq_true rfl) rfl ?_
  intro p e s m args below meth c C hr hlk
  show At p l e rm_X12_ifFirst s m args below meth c 0 0 g 4 (MQ below (QI g s.heap.size res.1 res.2 inR) args s 0 0 (AA g s.heap.size)) 0 [(0, vr g 94), (1, vi v1), (2, vi v2)] [] σ
  unfold F_X12_ifFirst at hF
  refine at_aload_n (pc := 0) C 0 dX12_ifFirst_0 rfl rfl ?_
  refine at_iconst (pc := 1) C dX12_ifFirst_1 ?_
  refine at_puti (pc := 2) (jz := 2) C fu_12_81 kd94 rfl (Nat.le_of_ble_eq_true rfl) rfl rfl dX12_ifFirst_2 ?_
  refine at_aload_n (pc := 5) C 0 dX12_ifFirst_5 rfl rfl ?_
  refine at_iload_n (pc := 6) C 1 dX12_ifFirst_6 rfl rfl ?_
  obtain ⟨q1, eq1, hF⟩ := bind_some' hF
  refine at_callV (pc := 7) (ci := 12) C (c_X12_isPeriod l g N v1 (upI σ 94 2 0) q1 h1 (OK_up (k := 94) (j := 2) ok (isB.r (Or.inl rfl))) eq1) kv_X12_isPeriod w1581 kd94 rfl rfl rfl rfl (Nat.le_of_ble_eq_true rfl) ⟨rfl, rfl, (Nat.le_of_ble_eq_true rfl), (Nat.le_of_ble_eq_true rfl)⟩ dX12_ifFirst_7 (fun tq1 okq1 => ?_)
  refine at_if_eq (pc := 10) (tgt := 26) C (isB.r tq1) dX12_ifFirst_10 rfl (fun c2 => ?_) (fun c2 => ?_)
  · have hF := (if_pos c2).symm.trans hF
    refine at_iconst (pc := 26) C dX12_ifFirst_26 ?_
    obtain rfl := Option.some.inj hF
    exact at_iret (pc := 27) C hr hlk (show inR (-1) from ⟨by decide, by decide⟩) (OK_up (k := 94) (j := 2) ok (isB.r (Or.inl rfl))) dX12_ifFirst_27
  · have hF := (if_neg c2).symm.trans hF
    refine at_iload_n (pc := 13) C 2 dX12_ifFirst_13 rfl rfl ?_
    refine at_iconst (pc := 14) C dX12_ifFirst_14 ?_
    refine at_aload_n (pc := 15) C 0 dX12_ifFirst_15 rfl rfl ?_
    refine at_iload_n (pc := 16) C 1 dX12_ifFirst_16 rfl rfl ?_
    obtain ⟨q3, eq3, hF⟩ := bind_some' hF
    refine at_callV (pc := 17) (ci := 12) C (c_X12_lastDay l g N v1 (upI σ 94 2 0) q3 h1 (OK_up (k := 94) (j := 2) ok (isB.r (Or.inl rfl))) eq3) kv_X12_lastDay w1601 kd94 rfl rfl rfl rfl (Nat.le_of_ble_eq_true rfl) ⟨rfl, rfl, (Nat.le_of_ble_eq_true rfl), (Nat.le_of_ble_eq_true rfl)⟩ dX12_ifFirst_17 (fun tq3 okq3 => ?_)
    obtain ⟨q4, eq4, hF⟩ := bind_some' hF
    refine at_callS (pc := 20) C (c_X12_isIn l g N v2 0 q3 (upI σ 94 2 0) q4 h2 (isB.r (Or.inl rfl)) tq3 (OK_up (k := 94) (j := 2) ok (isB.r (Or.inl rfl))) eq4) ks_X12_isIn w1525 rfl rfl (Nat.le_of_ble_eq_true rfl) ⟨rfl, rfl, (Nat.le_of_ble_eq_true rfl), (Nat.le_of_ble_eq_true rfl)⟩ dX12_ifFirst_20 (fun tq4 okq4 => ?_)
    refine at_if_ne (pc := 23) (tgt := 28) C (isB.r tq4) dX12_ifFirst_23 rfl (fun c5 => ?_) (fun c5 => ?_)
    · have hF := (if_neg c5).symm.trans hF
      refine at_iconst (pc := 28) C dX12_ifFirst_28 ?_
      refine at_istore_n (pc := 29) (lv' := [(3, vi 0), (0, vr g 94), (1, vi v1), (2, vi v2)]) C dX12_ifFirst_29 rfl (Nat.le_of_ble_eq_true rfl) rfl ?_
      have L30 : ∀ (v1 : Int) (v2 : Int) (v3 : Int) (σ : Sto), inR v1 → inR v2 → inR v3 → OK σ → loopK (fun q nx30 => F_X12_ifFirst_B30 N  nx30 v1 v2 q σ) N v3 = some res → At p l e rm_X12_ifFirst s m args below meth c 0 0 g 4 (MQ below (QI g s.heap.size res.1 res.2 inR) args s 0 0 (AA g s.heap.size)) 30 [(0, vr g 94), (1, vi v1), (2, vi v2), (3, vi v3)] [] σ := by
        intro v1 v2 v3 σ h1 h2 h3 ok hF
        refine loopK_ind (res := res) (P := fun (q : Int) => inR q → At p l e rm_X12_ifFirst s m args below meth c 0 0 g 4 (MQ below (QI g s.heap.size res.1 res.2 inR) args s 0 0 (AA g s.heap.size)) 30 [(0, vr g 94), (1, vi v1), (2, vi v2), (3, vi q)] [] σ) ?_ N _ hF h3
        intro nx30 v3 ih30 hF h3
        have hF : F_X12_ifFirst_B30 N  nx30 v1 v2 v3 σ = some res := hF
        unfold F_X12_ifFirst_B30 at hF
        have J87 : ∀ (v1 : Int) (v2 : Int) (σ : Sto), inR v1 → inR v2 → OK σ → F_X12_ifFirst_J87 N  v1 v2 σ = some res → At p l e rm_X12_ifFirst s m args below meth c 0 0 g 4 (MQ below (QI g s.heap.size res.1 res.2 inR) args s 0 0 (AA g s.heap.size)) 87 [(0, vr g 94), (1, vi v1), (2, vi v2)] [] σ := by
          intro v1 v2 σ h1 h2 ok hF
          unfold F_X12_ifFirst_J87 at hF
          refine at_aload_n (pc := 87) C 0 dX12_ifFirst_87 rfl rfl ?_
          refine at_iload_n (pc := 88) C 1 dX12_ifFirst_88 rfl rfl ?_
          refine at_puti (pc := 89) (jz := 31) C fu_12_45 kd94 rfl (Nat.le_of_ble_eq_true rfl) rfl rfl dX12_ifFirst_89 ?_
          refine at_aload_n (pc := 92) C 0 dX12_ifFirst_92 rfl rfl ?_
          refine at_iload_n (pc := 93) C 2 dX12_ifFirst_93 rfl rfl ?_
          refine at_puti (pc := 94) (jz := 32) C fu_12_230 kd94 rfl (Nat.le_of_ble_eq_true rfl) rfl rfl dX12_ifFirst_94 ?_
          refine at_aload_n (pc := 97) C 0 dX12_ifFirst_97 rfl rfl ?_
          refine at_aload_n (pc := 98) C 0 dX12_ifFirst_98 rfl rfl ?_
          refine at_getr (pc := 99) (k' := 100) C 6 fw_12_29 kd94 rfl (Nat.le_of_ble_eq_true rfl) rfl rfl dX12_ifFirst_99 ?_
          refine at_iconst (pc := 102) C dX12_ifFirst_102 ?_
          obtain ⟨b6, hF⟩ := inb_some hF
          refine at_iaload (pc := 103) C kd100 b6 dX12_ifFirst_103 ?_
          refine at_iconst (pc := 104) C dX12_ifFirst_104 ?_
          obtain ⟨q7, eq7, hF⟩ := bind_some' hF
          refine at_callVv (pc := 105) (ci := 12) C (c_X12_laysAll l g N ((upI (upI σ 94 31 v1) 94 32 v2).1 100 0) 0 (upI (upI σ 94 31 v1) 94 32 v2) q7 ((OK_up (k := 94) (j := 32) (OK_up (k := 94) (j := 31) ok h1) h2) 100 0) (Or.inl rfl) (OK_up (k := 94) (j := 32) (OK_up (k := 94) (j := 31) ok h1) h2) eq7) kv_X12_laysAll w1687 kd94 rfl rfl rfl rfl (Nat.le_of_ble_eq_true rfl) ⟨rfl, rfl, (Nat.le_of_ble_eq_true rfl), (Nat.le_of_ble_eq_true rfl)⟩ dX12_ifFirst_105 (fun okq7 => ?_)
          refine at_aload_n (pc := 108) C 0 dX12_ifFirst_108 rfl rfl ?_
          refine at_iconst (pc := 109) C dX12_ifFirst_109 ?_
          refine at_puti (pc := 110) (jz := 31) C fu_12_45 kd94 rfl (Nat.le_of_ble_eq_true rfl) rfl rfl dX12_ifFirst_110 ?_
          refine at_aload_n (pc := 113) C 0 dX12_ifFirst_113 rfl rfl ?_
          obtain ⟨q8, eq8, hF⟩ := bind_some' hF
          refine at_callV (pc := 114) (ci := 12) C (c_X12_relieves l g N  (upI q7 94 31 (-1)) q8  (OK_up (k := 94) (j := 31) okq7 (show inR (-1) from ⟨by decide, by decide⟩)) eq8) kv_X12_relieves w1691 kd94 rfl rfl rfl rfl (Nat.le_of_ble_eq_true rfl) ⟨rfl, rfl, (Nat.le_of_ble_eq_true rfl), (Nat.le_of_ble_eq_true rfl)⟩ dX12_ifFirst_114 (fun tq8 okq8 => ?_)
          obtain rfl := Option.some.inj hF
          exact at_iret (pc := 117) C hr hlk tq8 okq8 dX12_ifFirst_117
        refine at_iload_n (pc := 30) C 3 dX12_ifFirst_30 rfl rfl ?_
        refine at_aload_n (pc := 31) C 0 dX12_ifFirst_31 rfl rfl ?_
        refine at_geti (pc := 32) (jz := 14) C fw_12_135 kd94 rfl (Nat.le_of_ble_eq_true rfl) rfl rfl dX12_ifFirst_32 ?_
        refine at_icmp_ge (pc := 35) (tgt := 87) C h3 (ok 94 14) dX12_ifFirst_35 rfl (fun c9 => ?_) (fun c9 => ?_)
        · have hF := (if_pos c9).symm.trans hF
          refine at_sub (lv' := [(0, vr g 94), (1, vi v1), (2, vi v2)]) [0, 1, 2] rfl ?_
          exact J87 v1 v2 σ h1 h2 ok hF
        · have hF := (if_neg c9).symm.trans hF
          have J81 : ∀ (v3 : Int), inR v3 → F_X12_ifFirst_J81 N nx30 v1 v2 v3 σ = some res → At p l e rm_X12_ifFirst s m args below meth c 0 0 g 4 (MQ below (QI g s.heap.size res.1 res.2 inR) args s 0 0 (AA g s.heap.size)) 81 [(0, vr g 94), (1, vi v1), (2, vi v2), (3, vi v3)] [] σ := by
            intro v3 h3 hF
            unfold F_X12_ifFirst_J81 at hF
            refine at_iinc (pc := 81) (lv' := [(3, vi (ja v3 1)), (0, vr g 94), (1, vi v1), (2, vi v2)]) C 3 dX12_ifFirst_81 rfl (Nat.le_of_ble_eq_true rfl) rfl ?_
            refine at_goto (pc := 84) (tgt := 30) C dX12_ifFirst_84 rfl ?_
            refine at_sub (lv' := [(0, vr g 94), (1, vi v1), (2, vi v2), (3, vi (ja v3 1))]) [1, 2, 3, 0] rfl ?_
            exact ih30 _ hF (ja_R v3 1)
          refine at_iload_n (pc := 38) C 3 dX12_ifFirst_38 rfl rfl ?_
          refine at_iload_n (pc := 39) C 1 dX12_ifFirst_39 rfl rfl ?_
          refine at_icmp_eq (pc := 40) (tgt := 81) C h3 h1 dX12_ifFirst_40 rfl (fun c10 => ?_) (fun c10 => ?_)
          · have hF := (if_pos c10).symm.trans hF
            exact J81 v3 h3 hF
          · have hF := (if_neg c10).symm.trans hF
            refine at_aload_n (pc := 43) C 0 dX12_ifFirst_43 rfl rfl ?_
            refine at_iload_n (pc := 44) C 3 dX12_ifFirst_44 rfl rfl ?_
            obtain ⟨q11, eq11, hF⟩ := bind_some' hF
            refine at_callV (pc := 45) (ci := 12) C (c_X12_memberOf l g N v3 σ q11 h3 ok eq11) kv_X12_memberOf w1593 kd94 rfl rfl rfl rfl (Nat.le_of_ble_eq_true rfl) ⟨rfl, rfl, (Nat.le_of_ble_eq_true rfl), (Nat.le_of_ble_eq_true rfl)⟩ dX12_ifFirst_45 (fun tq11 okq11 => ?_)
            refine at_aload_n (pc := 48) C 0 dX12_ifFirst_48 rfl rfl ?_
            refine at_iload_n (pc := 49) C 1 dX12_ifFirst_49 rfl rfl ?_
            obtain ⟨q12, eq12, hF⟩ := bind_some' hF
            refine at_callV (pc := 50) (ci := 12) C (c_X12_memberOf l g N v1 σ q12 h1 ok eq12) kv_X12_memberOf w1593 kd94 rfl rfl rfl rfl (Nat.le_of_ble_eq_true rfl) ⟨rfl, rfl, (Nat.le_of_ble_eq_true rfl), (Nat.le_of_ble_eq_true rfl)⟩ dX12_ifFirst_50 (fun tq12 okq12 => ?_)
            refine at_icmp_ne (pc := 53) (tgt := 81) C tq11 tq12 dX12_ifFirst_53 rfl (fun c13 => ?_) (fun c13 => ?_)
            · have hF := (if_neg c13).symm.trans hF
              exact J81 v3 h3 hF
            · have hF := (if_pos c13).symm.trans hF
              refine at_aload_n (pc := 56) C 0 dX12_ifFirst_56 rfl rfl ?_
              refine at_iload_n (pc := 57) C 3 dX12_ifFirst_57 rfl rfl ?_
              obtain ⟨q14, eq14, hF⟩ := bind_some' hF
              refine at_callV (pc := 58) (ci := 12) C (c_X12_firstDay l g N v3 σ q14 h3 ok eq14) kv_X12_firstDay w1597 kd94 rfl rfl rfl rfl (Nat.le_of_ble_eq_true rfl) ⟨rfl, rfl, (Nat.le_of_ble_eq_true rfl), (Nat.le_of_ble_eq_true rfl)⟩ dX12_ifFirst_58 (fun tq14 okq14 => ?_)
              refine at_aload_n (pc := 61) C 0 dX12_ifFirst_61 rfl rfl ?_
              refine at_iload_n (pc := 62) C 1 dX12_ifFirst_62 rfl rfl ?_
              obtain ⟨q15, eq15, hF⟩ := bind_some' hF
              refine at_callV (pc := 63) (ci := 12) C (c_X12_lastDay l g N v1 σ q15 h1 ok eq15) kv_X12_lastDay w1601 kd94 rfl rfl rfl rfl (Nat.le_of_ble_eq_true rfl) ⟨rfl, rfl, (Nat.le_of_ble_eq_true rfl), (Nat.le_of_ble_eq_true rfl)⟩ dX12_ifFirst_63 (fun tq15 okq15 => ?_)
              refine at_icmp_gt (pc := 66) (tgt := 81) C tq14 tq15 dX12_ifFirst_66 rfl (fun c16 => ?_) (fun c16 => ?_)
              · have hF := (if_pos c16).symm.trans hF
                exact J81 v3 h3 hF
              · have hF := (if_neg c16).symm.trans hF
                refine at_iload_n (pc := 69) C 2 dX12_ifFirst_69 rfl rfl ?_
                refine at_aload_n (pc := 70) C 0 dX12_ifFirst_70 rfl rfl ?_
                refine at_iload_n (pc := 71) C 3 dX12_ifFirst_71 rfl rfl ?_
                obtain ⟨q17, eq17, hF⟩ := bind_some' hF
                refine at_callV (pc := 72) (ci := 12) C (c_X12_lastDay l g N v3 σ q17 h3 ok eq17) kv_X12_lastDay w1601 kd94 rfl rfl rfl rfl (Nat.le_of_ble_eq_true rfl) ⟨rfl, rfl, (Nat.le_of_ble_eq_true rfl), (Nat.le_of_ble_eq_true rfl)⟩ dX12_ifFirst_72 (fun tq17 okq17 => ?_)
                refine at_icmp_gt (pc := 75) (tgt := 81) C h2 tq17 dX12_ifFirst_75 rfl (fun c18 => ?_) (fun c18 => ?_)
                · have hF := (if_pos c18).symm.trans hF
                  exact J81 v3 h3 hF
                · have hF := (if_neg c18).symm.trans hF
                  refine at_bipush (pc := 78) C dX12_ifFirst_78 (by decide) ?_
                  obtain rfl := Option.some.inj hF
                  exact at_iret (pc := 80) C hr hlk (show inR (-2) from ⟨by decide, by decide⟩) ok dX12_ifFirst_80
      refine at_sub (lv' := [(0, vr g 94), (1, vi v1), (2, vi v2), (3, vi 0)]) [1, 2, 3, 0] rfl ?_
      exact L30 v1 v2 0 (upI σ 94 2 0) h1 h2 (isB.r (Or.inl rfl)) (OK_up (k := 94) (j := 2) ok (isB.r (Or.inl rfl))) hF
    · have hF := (if_pos c5).symm.trans hF
      refine at_iconst (pc := 26) C dX12_ifFirst_26 ?_
      obtain rfl := Option.some.inj hF
      exact at_iret (pc := 27) C hr hlk (show inR (-1) from ⟨by decide, by decide⟩) (OK_up (k := 94) (j := 2) ok (isB.r (Or.inl rfl))) dX12_ifFirst_27
abbrev rm_X12_dearest : Room := { frames := 6, cells := 0, slots := 0, locals := 142 }
def F_X12_dearest_J72 (N : Nat)  (v1 : Int) (σ : Sto) : Option (Int × Sto) :=
  if 0 ≤ v1 then (some ((ja (jm 16 (jdiv v1 12)) (jrem v1 12)), σ)) else (some ((-2), σ))
def F_X12_dearest_J66 (N : Nat) (nx14 : (Int × Int) → Option (Int × Sto)) (v1 : Int) (v2 : Int) (σ : Sto) : Option (Int × Sto) :=
  nx14 (v1, (ja v2 1))
def F_X12_dearest_J64 (N : Nat) (nx14 : (Int × Int) → Option (Int × Sto)) (v2 : Int) (σ : Sto) : Option (Int × Sto) :=
  F_X12_dearest_J66 N nx14 v2 v2 σ
def F_X12_dearest_B14 (N : Nat) (nx14 : (Int × Int) → Option (Int × Sto))  (v1 : Int) (v2 : Int) (σ : Sto) : Option (Int × Sto) :=
  if 144 ≤ v2 then (F_X12_dearest_J72 N  v1 σ) else (inb v2 144 (if (σ.1 107 v2) = 0 then (F_X12_dearest_J66 N nx14 v1 v2 σ) else (if v1 < 0 then (F_X12_dearest_J64 N nx14 v2 σ) else ((F_X12_priceOf N (jdiv v2 12) (jrem v2 12) σ).bind (fun q7 => (F_X12_priceOf N (jdiv v1 12) (jrem v1 12) σ).bind (fun q8 => if q7 ≤ q8 then (F_X12_dearest_J66 N nx14 v1 v2 σ) else (F_X12_dearest_J64 N nx14 v2 σ)))))))
def F_X12_dearest (N : Nat)  (σ : Sto) : Option (Int × Sto) :=
  (F_X12_solves N (upI σ 94 2 0)).bind (fun q1 => loopK (fun q nx14 => F_X12_dearest_B14 N  nx14  q.1 q.2 q1.2) N ((-1), 0))
set_option maxHeartbeats 4000000 in
set_option maxRecDepth 100000 in
theorem c_X12_dearest (l : Launch) (g : Geo) (N : Nat)  (σ : Sto) (res : Int × Sto)  (ok : OK σ) (hF : F_X12_dearest N  σ = some res) : MtI l g yX12_dearest cX12_dearest 3 (some .int) rm_X12_dearest [vr g 94] σ res.1 res.2 inR := by
  intro sz
  refine Met.ofAt (own := RX12) (QQ := fun z => QI g z res.1 res.2 inR) (by decide +kernel) (Nat.le_of_ble_eq_true rfl) rfl ?_
  intro p e s m args below meth c C hr hlk
  show At p l e rm_X12_dearest s m args below meth c 0 0 g 3 (MQ below (QI g s.heap.size res.1 res.2 inR) args s 0 0 (AA g s.heap.size)) 0 [(0, vr g 94)] [] σ
  unfold F_X12_dearest at hF
  refine at_aload_n (pc := 0) C 0 dX12_dearest_0 rfl rfl ?_
  refine at_iconst (pc := 1) C dX12_dearest_1 ?_
  refine at_puti (pc := 2) (jz := 2) C fu_12_81 kd94 rfl (Nat.le_of_ble_eq_true rfl) rfl rfl dX12_dearest_2 ?_
  refine at_aload_n (pc := 5) C 0 dX12_dearest_5 rfl rfl ?_
  obtain ⟨q1, eq1, hF⟩ := bind_some' hF
  refine at_callV (pc := 6) (ci := 12) C (c_X12_solves l g N  (upI σ 94 2 0) q1  (OK_up (k := 94) (j := 2) ok (isB.r (Or.inl rfl))) eq1) kv_X12_solves w1683 kd94 rfl rfl rfl rfl (Nat.le_of_ble_eq_true rfl) ⟨rfl, rfl, (Nat.le_of_ble_eq_true rfl), (Nat.le_of_ble_eq_true rfl)⟩ dX12_dearest_6 (fun tq1 okq1 => ?_)
  refine at_pop (pc := 9) C dX12_dearest_9 rfl ?_
  refine at_iconst (pc := 10) C dX12_dearest_10 ?_
  refine at_istore_n (pc := 11) (lv' := [(1, vi (-1)), (0, vr g 94)]) C dX12_dearest_11 rfl (Nat.le_of_ble_eq_true rfl) rfl ?_
  refine at_iconst (pc := 12) C dX12_dearest_12 ?_
  refine at_istore_n (pc := 13) (lv' := [(2, vi 0), (1, vi (-1)), (0, vr g 94)]) C dX12_dearest_13 rfl (Nat.le_of_ble_eq_true rfl) rfl ?_
  have L14 : ∀ (v1 : Int) (v2 : Int) (σ : Sto), inR v1 → inR v2 → OK σ → loopK (fun q nx14 => F_X12_dearest_B14 N  nx14  q.1 q.2 σ) N (v1, v2) = some res → At p l e rm_X12_dearest s m args below meth c 0 0 g 3 (MQ below (QI g s.heap.size res.1 res.2 inR) args s 0 0 (AA g s.heap.size)) 14 [(0, vr g 94), (1, vi v1), (2, vi v2)] [] σ := by
    intro v1 v2 σ h1 h2 ok hF
    refine loopK_ind (res := res) (P := fun (q : Int × Int) => inR q.1 → inR q.2 → At p l e rm_X12_dearest s m args below meth c 0 0 g 3 (MQ below (QI g s.heap.size res.1 res.2 inR) args s 0 0 (AA g s.heap.size)) 14 [(0, vr g 94), (1, vi q.1), (2, vi q.2)] [] σ) ?_ N _ hF h1 h2
    intro nx14 q ih14 hF
    obtain ⟨v1, v2⟩ := q
    intro h1 h2
    have hF : F_X12_dearest_B14 N  nx14  v1 v2 σ = some res := hF
    unfold F_X12_dearest_B14 at hF
    have J72 : ∀ (v1 : Int) (σ : Sto), inR v1 → OK σ → F_X12_dearest_J72 N  v1 σ = some res → At p l e rm_X12_dearest s m args below meth c 0 0 g 3 (MQ below (QI g s.heap.size res.1 res.2 inR) args s 0 0 (AA g s.heap.size)) 72 [(1, vi v1)] [] σ := by
      intro v1 σ h1 ok hF
      unfold F_X12_dearest_J72 at hF
      refine at_iload_n (pc := 72) C 0 dX12_dearest_72 rfl rfl ?_
      refine at_if_ge (pc := 73) (tgt := 81) C h1 dX12_dearest_73 rfl (fun c2 => ?_) (fun c2 => ?_)
      · have hF := (if_pos c2).symm.trans hF
        refine at_bipush (pc := 81) C dX12_dearest_81 (by decide) ?_
        refine at_iload_n (pc := 83) C 0 dX12_dearest_83 rfl rfl ?_
        refine at_bipush (pc := 84) C dX12_dearest_84 (by decide) ?_
        refine at_idiv (pc := 86) C dX12_dearest_86 (show inR 12 from ⟨by decide, by decide⟩) (by decide) ?_
        refine at_imul (pc := 87) C dX12_dearest_87 ?_
        refine at_iload_n (pc := 88) C 0 dX12_dearest_88 rfl rfl ?_
        refine at_bipush (pc := 89) C dX12_dearest_89 (by decide) ?_
        refine at_irem (pc := 91) C dX12_dearest_91 (show inR 12 from ⟨by decide, by decide⟩) (by decide) ?_
        refine at_iadd (pc := 92) C dX12_dearest_92 ?_
        obtain rfl := Option.some.inj hF
        exact at_iret (pc := 93) C hr hlk (ja_R (jm 16 (jdiv v1 12)) (jrem v1 12)) ok dX12_dearest_93
      · have hF := (if_neg c2).symm.trans hF
        refine at_bipush (pc := 76) C dX12_dearest_76 (by decide) ?_
        refine at_goto (pc := 78) (tgt := 93) C dX12_dearest_78 rfl ?_
        obtain rfl := Option.some.inj hF
        exact at_iret (pc := 93) C hr hlk (show inR (-2) from ⟨by decide, by decide⟩) ok dX12_dearest_93
    refine at_iload_n (pc := 14) C 2 dX12_dearest_14 rfl rfl ?_
    refine at_sipush (pc := 15) C dX12_dearest_15 (by decide) ?_
    refine at_icmp_ge (pc := 18) (tgt := 72) C h2 (show inR 144 from ⟨by decide, by decide⟩) dX12_dearest_18 rfl (fun c3 => ?_) (fun c3 => ?_)
    · have hF := (if_pos c3).symm.trans hF
      refine at_sub (lv' := [(1, vi v1)]) [1] rfl ?_
      exact J72 v1 σ h1 ok hF
    · have hF := (if_neg c3).symm.trans hF
      have J66 : ∀ (v1 : Int) (v2 : Int), inR v1 → inR v2 → F_X12_dearest_J66 N nx14 v1 v2 σ = some res → At p l e rm_X12_dearest s m args below meth c 0 0 g 3 (MQ below (QI g s.heap.size res.1 res.2 inR) args s 0 0 (AA g s.heap.size)) 66 [(0, vr g 94), (1, vi v1), (2, vi v2)] [] σ := by
        intro v1 v2 h1 h2 hF
        unfold F_X12_dearest_J66 at hF
        refine at_iinc (pc := 66) (lv' := [(2, vi (ja v2 1)), (0, vr g 94), (1, vi v1)]) C 2 dX12_dearest_66 rfl (Nat.le_of_ble_eq_true rfl) rfl ?_
        refine at_goto (pc := 69) (tgt := 14) C dX12_dearest_69 rfl ?_
        refine at_sub (lv' := [(0, vr g 94), (1, vi v1), (2, vi (ja v2 1))]) [1, 2, 0] rfl ?_
        exact ih14 _ hF h1 (ja_R v2 1)
      refine at_aload_n (pc := 21) C 0 dX12_dearest_21 rfl rfl ?_
      refine at_getr (pc := 22) (k' := 107) C 13 fw_12_54 kd94 rfl (Nat.le_of_ble_eq_true rfl) rfl rfl dX12_dearest_22 ?_
      refine at_iload_n (pc := 25) C 2 dX12_dearest_25 rfl rfl ?_
      obtain ⟨b4, hF⟩ := inb_some hF
      refine at_iaload (pc := 26) C kd107 b4 dX12_dearest_26 ?_
      refine at_if_ne (pc := 27) (tgt := 33) C (ok 107 v2) dX12_dearest_27 rfl (fun c5 => ?_) (fun c5 => ?_)
      · have hF := (if_neg c5).symm.trans hF
        have J64 : ∀ (v2 : Int), inR v2 → F_X12_dearest_J64 N nx14 v2 σ = some res → At p l e rm_X12_dearest s m args below meth c 0 0 g 3 (MQ below (QI g s.heap.size res.1 res.2 inR) args s 0 0 (AA g s.heap.size)) 64 [(0, vr g 94), (2, vi v2)] [] σ := by
          intro v2 h2 hF
          unfold F_X12_dearest_J64 at hF
          refine at_iload_n (pc := 64) C 1 dX12_dearest_64 rfl rfl ?_
          refine at_istore_n (pc := 65) (lv' := [(1, vi v2), (0, vr g 94), (2, vi v2)]) C dX12_dearest_65 rfl (Nat.le_of_ble_eq_true rfl) rfl ?_
          refine at_sub (lv' := [(0, vr g 94), (1, vi v2), (2, vi v2)]) [1, 0, 2] rfl ?_
          exact J66 v2 v2 h2 h2 hF
        refine at_iload_n (pc := 33) C 1 dX12_dearest_33 rfl rfl ?_
        refine at_if_lt (pc := 34) (tgt := 64) C h1 dX12_dearest_34 rfl (fun c6 => ?_) (fun c6 => ?_)
        · have hF := (if_pos c6).symm.trans hF
          refine at_sub (lv' := [(0, vr g 94), (2, vi v2)]) [0, 2] rfl ?_
          exact J64 v2 h2 hF
        · have hF := (if_neg c6).symm.trans hF
          refine at_aload_n (pc := 37) C 0 dX12_dearest_37 rfl rfl ?_
          refine at_iload_n (pc := 38) C 2 dX12_dearest_38 rfl rfl ?_
          refine at_bipush (pc := 39) C dX12_dearest_39 (by decide) ?_
          refine at_idiv (pc := 41) C dX12_dearest_41 (show inR 12 from ⟨by decide, by decide⟩) (by decide) ?_
          refine at_iload_n (pc := 42) C 2 dX12_dearest_42 rfl rfl ?_
          refine at_bipush (pc := 43) C dX12_dearest_43 (by decide) ?_
          refine at_irem (pc := 45) C dX12_dearest_45 (show inR 12 from ⟨by decide, by decide⟩) (by decide) ?_
          obtain ⟨q7, eq7, hF⟩ := bind_some' hF
          refine at_callV (pc := 46) (ci := 12) C (c_X12_priceOf l g N (jdiv v2 12) (jrem v2 12) σ q7 (jdiv_R v2 12) (jrem_R v2 12) ok eq7) kv_X12_priceOf w1699 kd94 rfl rfl rfl rfl (Nat.le_of_ble_eq_true rfl) ⟨rfl, rfl, (Nat.le_of_ble_eq_true rfl), (Nat.le_of_ble_eq_true rfl)⟩ dX12_dearest_46 (fun tq7 okq7 => ?_)
          refine at_aload_n (pc := 49) C 0 dX12_dearest_49 rfl rfl ?_
          refine at_iload_n (pc := 50) C 1 dX12_dearest_50 rfl rfl ?_
          refine at_bipush (pc := 51) C dX12_dearest_51 (by decide) ?_
          refine at_idiv (pc := 53) C dX12_dearest_53 (show inR 12 from ⟨by decide, by decide⟩) (by decide) ?_
          refine at_iload_n (pc := 54) C 1 dX12_dearest_54 rfl rfl ?_
          refine at_bipush (pc := 55) C dX12_dearest_55 (by decide) ?_
          refine at_irem (pc := 57) C dX12_dearest_57 (show inR 12 from ⟨by decide, by decide⟩) (by decide) ?_
          obtain ⟨q8, eq8, hF⟩ := bind_some' hF
          refine at_callV (pc := 58) (ci := 12) C (c_X12_priceOf l g N (jdiv v1 12) (jrem v1 12) σ q8 (jdiv_R v1 12) (jrem_R v1 12) ok eq8) kv_X12_priceOf w1699 kd94 rfl rfl rfl rfl (Nat.le_of_ble_eq_true rfl) ⟨rfl, rfl, (Nat.le_of_ble_eq_true rfl), (Nat.le_of_ble_eq_true rfl)⟩ dX12_dearest_58 (fun tq8 okq8 => ?_)
          refine at_icmp_le (pc := 61) (tgt := 66) C tq7 tq8 dX12_dearest_61 rfl (fun c9 => ?_) (fun c9 => ?_)
          · have hF := (if_pos c9).symm.trans hF
            exact J66 v1 v2 h1 h2 hF
          · have hF := (if_neg c9).symm.trans hF
            refine at_sub (lv' := [(0, vr g 94), (2, vi v2)]) [0, 2] rfl ?_
            exact J64 v2 h2 hF
      · have hF := (if_pos c5).symm.trans hF
        refine at_goto (pc := 30) (tgt := 66) C dX12_dearest_30 rfl ?_
        exact J66 v1 v2 h1 h2 hF
  refine at_sub (lv' := [(0, vr g 94), (1, vi (-1)), (2, vi 0)]) [2, 1, 0] rfl ?_
  exact L14 (-1) 0 q1.2 (show inR (-1) from ⟨by decide, by decide⟩) (isB.r (Or.inl rfl)) okq1 hF
abbrev rm_X12_draw : Room := { frames := 0, cells := 0, slots := 0, locals := 0 }
def F_X12_draw (N : Nat) (v1 : Int) (σ : Sto) : Option (Int × Sto) :=
  grd (¬ v1 = 0) inferInstance (some ((jl2i (jlr (jld ((upF σ 94 47 (jland (jla (jlm (σ.2 94 47) 1103515245) 12345) 2147483647)).2 94 47) 65536) v1)), (upF σ 94 47 (jland (jla (jlm (σ.2 94 47) 1103515245) 12345) 2147483647))))
set_option maxHeartbeats 4000000 in
set_option maxRecDepth 100000 in
theorem c_X12_draw (l : Launch) (g : Geo) (N : Nat) (v1 : Int) (σ : Sto) (res : Int × Sto) (h1 : inR v1) (ok : OK σ) (hF : F_X12_draw N v1 σ = some res) : MtI l g yX12_draw cX12_draw 2 (some .int) rm_X12_draw [vr g 94, vi v1] σ res.1 res.2 inR := by
  intro sz
  refine Met.ofAt (own := RX12) (QQ := fun z => QI g z res.1 res.2 inR) (by decide +kernel) (Nat.le_of_ble_eq_true rfl) rfl ?_
  intro p e s m args below meth c C hr hlk
  show At p l e rm_X12_draw s m args below meth c 0 0 g 2 (MQ below (QI g s.heap.size res.1 res.2 inR) args s 0 0 (AA g s.heap.size)) 0 [(0, vr g 94), (1, vi v1)] [] σ
  unfold F_X12_draw at hF
  refine at_aload_n (pc := 0) C 0 dX12_draw_0 rfl rfl ?_
  refine at_aload_n (pc := 1) C 0 dX12_draw_1 rfl rfl ?_
  refine at_getl (pc := 2) (jz := 47) C fw_12_379 kd94 rfl (Nat.le_of_ble_eq_true rfl) rfl rfl dX12_draw_2 ?_
  refine at_ldc2l (pc := 5) (n := 1103515245) C dX12_draw_5 w1922 ?_
  refine at_lmul (pc := 8) C dX12_draw_8 ?_
  refine at_ldc2l (pc := 9) (n := 12345) C dX12_draw_9 w1923 ?_
  refine at_ladd (pc := 12) C dX12_draw_12 ?_
  refine at_ldc2l (pc := 13) (n := 2147483647) C dX12_draw_13 w1924 ?_
  refine at_land (pc := 16) C dX12_draw_16 ?_
  refine at_putl (pc := 17) (jz := 47) C fu_12_379 kd94 rfl (Nat.le_of_ble_eq_true rfl) rfl rfl dX12_draw_17 ?_
  refine at_aload_n (pc := 20) C 0 dX12_draw_20 rfl rfl ?_
  refine at_getl (pc := 21) (jz := 47) C fw_12_379 kd94 rfl (Nat.le_of_ble_eq_true rfl) rfl rfl dX12_draw_21 ?_
  refine at_ldc2l (pc := 24) (n := 65536) C dX12_draw_24 w1925 ?_
  refine at_ldiv (pc := 27) C dX12_draw_27 (show inL 65536 from ⟨by decide, by decide⟩) (by decide) ?_
  refine at_iload_n (pc := 28) C 1 dX12_draw_28 rfl rfl ?_
  refine at_i2l (pc := 29) C h1 dX12_draw_29 ?_
  obtain ⟨z1, hF⟩ := grd_some hF
  refine at_lrem (pc := 30) C dX12_draw_30 (inR.lo h1) z1 ?_
  refine at_l2i (pc := 31) C dX12_draw_31 ?_
  obtain rfl := Option.some.inj hF
  exact at_iret (pc := 32) C hr hlk (jl2i_R (jlr (jld ((upF σ 94 47 (jland (jla (jlm (σ.2 94 47) 1103515245) 12345) 2147483647)).2 94 47) 65536) v1)) (OK_uf (k := 94) (j := 47) (v := (jland (jla (jlm (σ.2 94 47) 1103515245) 12345) 2147483647)) ok) dX12_draw_32
abbrev rm_X12_chance : Room := { frames := 6, cells := 0, slots := 0, locals := 142 }
def F_X12_chance_J212 (N : Nat)  (t0 : Int) (σ : Sto) : Option (Int × Sto) :=
  some (t0, (upI σ 94 24 0))
def F_X12_chance_J189 (N : Nat)  (v3 : Int) (v4 : Int) (v5 : Int) (σ : Sto) : Option (Int × Sto) :=
  if v3 = 0 then (F_X12_chance_J212 N  v4 σ) else (if v3 = 1 then (F_X12_chance_J212 N  v5 σ) else ((F_X12_solves N σ).bind (fun q12 => F_X12_chance_J212 N  q12.1 q12.2)))
def F_X12_chance_J183 (N : Nat) (nx89 : (Int × Int × Int × Sto) → Option (Int × Sto)) (v2 : Int) (v3 : Int) (v4 : Int) (v5 : Int) (v6 : Int) (σ : Sto) : Option (Int × Sto) :=
  nx89 (v4, v5, (ja v6 1), σ)
def F_X12_chance_B89 (N : Nat) (nx89 : (Int × Int × Int × Sto) → Option (Int × Sto)) (v2 : Int) (v3 : Int) (v4 : Int) (v5 : Int) (v6 : Int) (σ : Sto) : Option (Int × Sto) :=
  if v2 ≤ v6 then (F_X12_chance_J189 N  v3 v4 v5 σ) else ((F_X12_draw N (σ.1 94 14) σ).bind (fun q14 => (F_X12_draw N (q14.2.1 94 14) q14.2).bind (fun q15 => (F_X12_draw N 1000 q15.2).bind (fun q16 => (F_X12_isLink N q14.1 q15.1 q16.2).bind (fun q17 => if q17 = 0 then (F_X12_chance_J183 N nx89 v2 v3 v4 v5 v6 q16.2) else ((F_X12_of N 0 q16.2).bind (fun q19 => if q19 = 30 then (F_X12_chance_J183 N nx89 v2 v3 v4 v5 v6 q16.2) else ((F_X12_canClaim N q14.1 q15.1 (ja q16.1 1) q16.2).bind (fun q21 => if q21 = 0 then (F_X12_chance_J183 N nx89 v2 v3 v4 v5 v6 q16.2) else ((F_X12_claims N q14.1 q15.1 (ja q16.1 1) q16.2).bind (fun q23 => F_X12_chance_J183 N nx89 v2 v3 (ja v4 1) (ja v5 (ja q16.1 1)) v6 q23)))))))))))
def F_X12_chance_J56 (N : Nat)  (v2 : Int) (v3 : Int) (t1 : Int) (σ : Sto) : Option (Int × Sto) :=
  (F_X12_copyBank N 0 1 (upF σ 94 47 t1)).bind (fun q7 => inb 0 8 ((F_X12_laysStretches N ((upI q7 94 24 1).1 100 0) (upI q7 94 24 1)).bind (fun q9 => loopK (fun q nx89 => F_X12_chance_B89 N  nx89 v2 v3 q.1 q.2.1 q.2.2.1 q.2.2.2) N (0, 0, 0, q9))))
def F_X12_chance (N : Nat) (v1 : Int) (v2 : Int) (v3 : Int) (σ : Sto) : Option (Int × Sto) :=
  if v1 < (-1) then (some ((-1), (upI σ 94 2 0))) else ((F_X12_isIn N v2 1 60 (upI σ 94 2 0)).bind (fun q2 => if q2 = 0 then (some ((-1), (upI σ 94 2 0))) else ((F_X12_isIn N v3 0 2 (upI σ 94 2 0)).bind (fun q4 => if q4 = 0 then (some ((-1), (upI σ 94 2 0))) else (if 1 ≤ ((upI σ 94 2 0).1 94 14) then (if 0 ≤ v1 then (F_X12_chance_J56 N  v2 v3 v1 (upI σ 94 2 0)) else (inb 2 8 (F_X12_chance_J56 N  v2 v3 ((upI σ 94 2 0).1 100 2) (upI σ 94 2 0)))) else (some ((-1), (upI σ 94 2 0))))))))
set_option maxHeartbeats 4000000 in
set_option maxRecDepth 100000 in
theorem c_X12_chance (l : Launch) (g : Geo) (N : Nat) (v1 : Int) (v2 : Int) (v3 : Int) (σ : Sto) (res : Int × Sto) (h1 : inR v1) (h2 : inR v2) (h3 : inR v3) (ok : OK σ) (hF : F_X12_chance N v1 v2 v3 σ = some res) : MtI l g yX12_chance cX12_chance 10 (some .int) rm_X12_chance [vr g 94, vi v1, vi v2, vi v3] σ res.1 res.2 inR := by
  intro sz
  refine Met.ofAt (own := RX12) (QQ := fun z => QI g z res.1 res.2 inR) (by decide +kernel) (Nat.le_of_ble_eq_true rfl) rfl ?_
  intro p e s m args below meth c C hr hlk
  show At p l e rm_X12_chance s m args below meth c 0 0 g 10 (MQ below (QI g s.heap.size res.1 res.2 inR) args s 0 0 (AA g s.heap.size)) 0 [(0, vr g 94), (1, vi v1), (2, vi v2), (3, vi v3)] [] σ
  unfold F_X12_chance at hF
  refine at_aload_n (pc := 0) C 0 dX12_chance_0 rfl rfl ?_
  refine at_iconst (pc := 1) C dX12_chance_1 ?_
  refine at_puti (pc := 2) (jz := 2) C fu_12_81 kd94 rfl (Nat.le_of_ble_eq_true rfl) rfl rfl dX12_chance_2 ?_
  refine at_iload_n (pc := 5) C 1 dX12_chance_5 rfl rfl ?_
  refine at_iconst (pc := 6) C dX12_chance_6 ?_
  refine at_icmp_lt (pc := 7) (tgt := 37) C h1 (show inR (-1) from ⟨by decide, by decide⟩) dX12_chance_7 rfl (fun c1 => ?_) (fun c1 => ?_)
  · have hF := (if_pos c1).symm.trans hF
    refine at_iconst (pc := 37) C dX12_chance_37 ?_
    obtain rfl := Option.some.inj hF
    exact at_iret (pc := 38) C hr hlk (show inR (-1) from ⟨by decide, by decide⟩) (OK_up (k := 94) (j := 2) ok (isB.r (Or.inl rfl))) dX12_chance_38
  · have hF := (if_neg c1).symm.trans hF
    refine at_iload_n (pc := 10) C 2 dX12_chance_10 rfl rfl ?_
    refine at_iconst (pc := 11) C dX12_chance_11 ?_
    refine at_bipush (pc := 12) C dX12_chance_12 (by decide) ?_
    obtain ⟨q2, eq2, hF⟩ := bind_some' hF
    refine at_callS (pc := 14) C (c_X12_isIn l g N v2 1 60 (upI σ 94 2 0) q2 h2 (isB.r (Or.inr rfl)) (show inR 60 from ⟨by decide, by decide⟩) (OK_up (k := 94) (j := 2) ok (isB.r (Or.inl rfl))) eq2) ks_X12_isIn w1525 rfl rfl (Nat.le_of_ble_eq_true rfl) ⟨rfl, rfl, (Nat.le_of_ble_eq_true rfl), (Nat.le_of_ble_eq_true rfl)⟩ dX12_chance_14 (fun tq2 okq2 => ?_)
    refine at_if_eq (pc := 17) (tgt := 37) C (isB.r tq2) dX12_chance_17 rfl (fun c3 => ?_) (fun c3 => ?_)
    · have hF := (if_pos c3).symm.trans hF
      refine at_iconst (pc := 37) C dX12_chance_37 ?_
      obtain rfl := Option.some.inj hF
      exact at_iret (pc := 38) C hr hlk (show inR (-1) from ⟨by decide, by decide⟩) (OK_up (k := 94) (j := 2) ok (isB.r (Or.inl rfl))) dX12_chance_38
    · have hF := (if_neg c3).symm.trans hF
      refine at_iload_n (pc := 20) C 3 dX12_chance_20 rfl rfl ?_
      refine at_iconst (pc := 21) C dX12_chance_21 ?_
      refine at_iconst (pc := 22) C dX12_chance_22 ?_
      obtain ⟨q4, eq4, hF⟩ := bind_some' hF
      refine at_callS (pc := 23) C (c_X12_isIn l g N v3 0 2 (upI σ 94 2 0) q4 h3 (isB.r (Or.inl rfl)) (show inR 2 from ⟨by decide, by decide⟩) (OK_up (k := 94) (j := 2) ok (isB.r (Or.inl rfl))) eq4) ks_X12_isIn w1525 rfl rfl (Nat.le_of_ble_eq_true rfl) ⟨rfl, rfl, (Nat.le_of_ble_eq_true rfl), (Nat.le_of_ble_eq_true rfl)⟩ dX12_chance_23 (fun tq4 okq4 => ?_)
      refine at_if_eq (pc := 26) (tgt := 37) C (isB.r tq4) dX12_chance_26 rfl (fun c5 => ?_) (fun c5 => ?_)
      · have hF := (if_pos c5).symm.trans hF
        refine at_iconst (pc := 37) C dX12_chance_37 ?_
        obtain rfl := Option.some.inj hF
        exact at_iret (pc := 38) C hr hlk (show inR (-1) from ⟨by decide, by decide⟩) (OK_up (k := 94) (j := 2) ok (isB.r (Or.inl rfl))) dX12_chance_38
      · have hF := (if_neg c5).symm.trans hF
        refine at_aload_n (pc := 29) C 0 dX12_chance_29 rfl rfl ?_
        refine at_geti (pc := 30) (jz := 14) C fw_12_135 kd94 rfl (Nat.le_of_ble_eq_true rfl) rfl rfl dX12_chance_30 ?_
        refine at_iconst (pc := 33) C dX12_chance_33 ?_
        refine at_icmp_ge (pc := 34) (tgt := 39) C ((OK_up (k := 94) (j := 2) ok (isB.r (Or.inl rfl))) 94 14) (isB.r (Or.inr rfl)) dX12_chance_34 rfl (fun c6 => ?_) (fun c6 => ?_)
        · have hF := (if_pos c6).symm.trans hF
          have J56 : ∀ (v2 : Int) (v3 : Int) (t1 : Int) (σ : Sto), inR v2 → inR v3 → inL t1 → OK σ → F_X12_chance_J56 N  v2 v3 t1 σ = some res → At p l e rm_X12_chance s m args below meth c 0 0 g 10 (MQ below (QI g s.heap.size res.1 res.2 inR) args s 0 0 (AA g s.heap.size)) 56 [(0, vr g 94), (2, vi v2), (3, vi v3)] [vl t1, vr g 94] σ := by
            intro v2 v3 t1 σ h2 h3 ht1 ok hF
            unfold F_X12_chance_J56 at hF
            refine at_putl (pc := 56) (jz := 47) C fu_12_379 kd94 rfl (Nat.le_of_ble_eq_true rfl) rfl rfl dX12_chance_56 ?_
            refine at_aload_n (pc := 59) C 0 dX12_chance_59 rfl rfl ?_
            refine at_iconst (pc := 60) C dX12_chance_60 ?_
            refine at_iconst (pc := 61) C dX12_chance_61 ?_
            obtain ⟨q7, eq7, hF⟩ := bind_some' hF
            refine at_callVv (pc := 62) (ci := 12) C (c_X12_copyBank l g N 0 1 (upF σ 94 47 t1) q7 (isB.r (Or.inl rfl)) (isB.r (Or.inr rfl)) (OK_uf (k := 94) (j := 47) (v := t1) ok) eq7) kv_X12_copyBank w1557 kd94 rfl rfl rfl rfl (Nat.le_of_ble_eq_true rfl) ⟨rfl, rfl, (Nat.le_of_ble_eq_true rfl), (Nat.le_of_ble_eq_true rfl)⟩ dX12_chance_62 (fun okq7 => ?_)
            refine at_aload_n (pc := 65) C 0 dX12_chance_65 rfl rfl ?_
            refine at_iconst (pc := 66) C dX12_chance_66 ?_
            refine at_puti (pc := 67) (jz := 24) C fu_12_148 kd94 rfl (Nat.le_of_ble_eq_true rfl) rfl rfl dX12_chance_67 ?_
            refine at_aload_n (pc := 70) C 0 dX12_chance_70 rfl rfl ?_
            refine at_aload_n (pc := 71) C 0 dX12_chance_71 rfl rfl ?_
            refine at_getr (pc := 72) (k' := 100) C 6 fw_12_29 kd94 rfl (Nat.le_of_ble_eq_true rfl) rfl rfl dX12_chance_72 ?_
            refine at_iconst (pc := 75) C dX12_chance_75 ?_
            obtain ⟨b8, hF⟩ := inb_some hF
            refine at_iaload (pc := 76) C kd100 b8 dX12_chance_76 ?_
            obtain ⟨q9, eq9, hF⟩ := bind_some' hF
            refine at_callVv (pc := 77) (ci := 12) C (c_X12_laysStretches l g N ((upI q7 94 24 1).1 100 0) (upI q7 94 24 1) q9 ((OK_up (k := 94) (j := 24) okq7 (isB.r (Or.inr rfl))) 100 0) (OK_up (k := 94) (j := 24) okq7 (isB.r (Or.inr rfl))) eq9) kv_X12_laysStretches w1605 kd94 rfl rfl rfl rfl (Nat.le_of_ble_eq_true rfl) ⟨rfl, rfl, (Nat.le_of_ble_eq_true rfl), (Nat.le_of_ble_eq_true rfl)⟩ dX12_chance_77 (fun okq9 => ?_)
            refine at_iconst (pc := 80) C dX12_chance_80 ?_
            refine at_istore (pc := 81) (lv' := [(4, vi 0), (0, vr g 94), (2, vi v2), (3, vi v3)]) C dX12_chance_81 (Nat.le_of_ble_eq_true rfl) rfl ?_
            refine at_iconst (pc := 83) C dX12_chance_83 ?_
            refine at_istore (pc := 84) (lv' := [(5, vi 0), (4, vi 0), (0, vr g 94), (2, vi v2), (3, vi v3)]) C dX12_chance_84 (Nat.le_of_ble_eq_true rfl) rfl ?_
            refine at_iconst (pc := 86) C dX12_chance_86 ?_
            refine at_istore (pc := 87) (lv' := [(6, vi 0), (5, vi 0), (4, vi 0), (0, vr g 94), (2, vi v2), (3, vi v3)]) C dX12_chance_87 (Nat.le_of_ble_eq_true rfl) rfl ?_
            have L89 : ∀ (v2 : Int) (v3 : Int) (v4 : Int) (v5 : Int) (v6 : Int) (σ : Sto), inR v2 → inR v3 → inR v4 → inR v5 → inR v6 → OK σ → loopK (fun q nx89 => F_X12_chance_B89 N  nx89 v2 v3 q.1 q.2.1 q.2.2.1 q.2.2.2) N (v4, v5, v6, σ) = some res → At p l e rm_X12_chance s m args below meth c 0 0 g 10 (MQ below (QI g s.heap.size res.1 res.2 inR) args s 0 0 (AA g s.heap.size)) 89 [(0, vr g 94), (2, vi v2), (3, vi v3), (4, vi v4), (5, vi v5), (6, vi v6)] [] σ := by
              intro v2 v3 v4 v5 v6 σ h2 h3 h4 h5 h6 ok hF
              refine loopK_ind (res := res) (P := fun (q : Int × Int × Int × Sto) => inR q.1 → inR q.2.1 → inR q.2.2.1 → OK q.2.2.2 → At p l e rm_X12_chance s m args below meth c 0 0 g 10 (MQ below (QI g s.heap.size res.1 res.2 inR) args s 0 0 (AA g s.heap.size)) 89 [(0, vr g 94), (2, vi v2), (3, vi v3), (4, vi q.1), (5, vi q.2.1), (6, vi q.2.2.1)] [] q.2.2.2) ?_ N _ hF h4 h5 h6 ok
              intro nx89 q ih89 hF
              obtain ⟨v4, v5, v6, σ⟩ := q
              intro h4 h5 h6 ok
              have hF : F_X12_chance_B89 N  nx89 v2 v3 v4 v5 v6 σ = some res := hF
              unfold F_X12_chance_B89 at hF
              have J189 : ∀ (v3 : Int) (v4 : Int) (v5 : Int) (σ : Sto), inR v3 → inR v4 → inR v5 → OK σ → F_X12_chance_J189 N  v3 v4 v5 σ = some res → At p l e rm_X12_chance s m args below meth c 0 0 g 10 (MQ below (QI g s.heap.size res.1 res.2 inR) args s 0 0 (AA g s.heap.size)) 189 [(0, vr g 94), (3, vi v3), (4, vi v4), (5, vi v5)] [] σ := by
                intro v3 v4 v5 σ h3 h4 h5 ok hF
                unfold F_X12_chance_J189 at hF
                have J212 : ∀ (t0 : Int) (σ : Sto), inR t0 → OK σ → F_X12_chance_J212 N  t0 σ = some res → At p l e rm_X12_chance s m args below meth c 0 0 g 10 (MQ below (QI g s.heap.size res.1 res.2 inR) args s 0 0 (AA g s.heap.size)) 212 [(0, vr g 94)] [vi t0] σ := by
                  intro t0 σ ht0 ok hF
                  unfold F_X12_chance_J212 at hF
                  refine at_istore (pc := 212) (lv' := [(6, vi t0), (0, vr g 94)]) C dX12_chance_212 (Nat.le_of_ble_eq_true rfl) rfl ?_
                  refine at_aload_n (pc := 214) C 1 dX12_chance_214 rfl rfl ?_
                  refine at_iconst (pc := 215) C dX12_chance_215 ?_
                  refine at_puti (pc := 216) (jz := 24) C fu_12_148 kd94 rfl (Nat.le_of_ble_eq_true rfl) rfl rfl dX12_chance_216 ?_
                  refine at_iload (pc := 219) C 0 dX12_chance_219 rfl ?_
                  obtain rfl := Option.some.inj hF
                  exact at_iret (pc := 221) C hr hlk ht0 (OK_up (k := 94) (j := 24) ok (isB.r (Or.inl rfl))) dX12_chance_221
                refine at_iload_n (pc := 189) C 1 dX12_chance_189 rfl rfl ?_
                refine at_if_ne (pc := 190) (tgt := 198) C h3 dX12_chance_190 rfl (fun c10 => ?_) (fun c10 => ?_)
                · have hF := (if_neg c10).symm.trans hF
                  refine at_iload_n (pc := 198) C 1 dX12_chance_198 rfl rfl ?_
                  refine at_iconst (pc := 199) C dX12_chance_199 ?_
                  refine at_icmp_ne (pc := 200) (tgt := 208) C h3 (isB.r (Or.inr rfl)) dX12_chance_200 rfl (fun c11 => ?_) (fun c11 => ?_)
                  · have hF := (if_neg c11).symm.trans hF
                    refine at_aload_n (pc := 208) C 0 dX12_chance_208 rfl rfl ?_
                    obtain ⟨q12, eq12, hF⟩ := bind_some' hF
                    refine at_callV (pc := 209) (ci := 12) C (c_X12_solves l g N  σ q12  ok eq12) kv_X12_solves w1683 kd94 rfl rfl rfl rfl (Nat.le_of_ble_eq_true rfl) ⟨rfl, rfl, (Nat.le_of_ble_eq_true rfl), (Nat.le_of_ble_eq_true rfl)⟩ dX12_chance_209 (fun tq12 okq12 => ?_)
                    refine at_sub (lv' := [(0, vr g 94)]) [0] rfl ?_
                    exact J212 q12.1 q12.2 tq12 okq12 hF
                  · have hF := (if_pos c11).symm.trans hF
                    refine at_iload (pc := 203) C 3 dX12_chance_203 rfl ?_
                    refine at_goto (pc := 205) (tgt := 212) C dX12_chance_205 rfl ?_
                    refine at_sub (lv' := [(0, vr g 94)]) [0] rfl ?_
                    exact J212 v5 σ h5 ok hF
                · have hF := (if_pos c10).symm.trans hF
                  refine at_iload (pc := 193) C 2 dX12_chance_193 rfl ?_
                  refine at_goto (pc := 195) (tgt := 212) C dX12_chance_195 rfl ?_
                  refine at_sub (lv' := [(0, vr g 94)]) [0] rfl ?_
                  exact J212 v4 σ h4 ok hF
              refine at_iload (pc := 89) C 5 dX12_chance_89 rfl ?_
              refine at_iload_n (pc := 91) C 1 dX12_chance_91 rfl rfl ?_
              refine at_icmp_ge (pc := 92) (tgt := 189) C h6 h2 dX12_chance_92 rfl (fun c13 => ?_) (fun c13 => ?_)
              · have hF := (if_pos c13).symm.trans hF
                refine at_sub (lv' := [(0, vr g 94), (3, vi v3), (4, vi v4), (5, vi v5)]) [0, 2, 3, 4] rfl ?_
                exact J189 v3 v4 v5 σ h3 h4 h5 ok hF
              · have hF := (if_neg c13).symm.trans hF
                have J183 : ∀ (v4 : Int) (v5 : Int) (v6 : Int) (σ : Sto), inR v4 → inR v5 → inR v6 → OK σ → F_X12_chance_J183 N nx89 v2 v3 v4 v5 v6 σ = some res → At p l e rm_X12_chance s m args below meth c 0 0 g 10 (MQ below (QI g s.heap.size res.1 res.2 inR) args s 0 0 (AA g s.heap.size)) 183 [(0, vr g 94), (2, vi v2), (3, vi v3), (4, vi v4), (5, vi v5), (6, vi v6)] [] σ := by
                  intro v4 v5 v6 σ h4 h5 h6 ok hF
                  unfold F_X12_chance_J183 at hF
                  refine at_iinc (pc := 183) (lv' := [(6, vi (ja v6 1)), (0, vr g 94), (2, vi v2), (3, vi v3), (4, vi v4), (5, vi v5)]) C 5 dX12_chance_183 rfl (Nat.le_of_ble_eq_true rfl) rfl ?_
                  refine at_goto (pc := 186) (tgt := 89) C dX12_chance_186 rfl ?_
                  refine at_sub (lv' := [(0, vr g 94), (2, vi v2), (3, vi v3), (4, vi v4), (5, vi v5), (6, vi (ja v6 1))]) [1, 2, 3, 4, 5, 0] rfl ?_
                  exact ih89 _ hF h4 h5 (ja_R v6 1) ok
                refine at_aload_n (pc := 95) C 0 dX12_chance_95 rfl rfl ?_
                refine at_aload_n (pc := 96) C 0 dX12_chance_96 rfl rfl ?_
                refine at_geti (pc := 97) (jz := 14) C fw_12_135 kd94 rfl (Nat.le_of_ble_eq_true rfl) rfl rfl dX12_chance_97 ?_
                obtain ⟨q14, eq14, hF⟩ := bind_some' hF
                refine at_callV (pc := 100) (ci := 12) C (c_X12_draw l g N (σ.1 94 14) σ q14 (ok 94 14) ok eq14) kv_X12_draw w1918 kd94 rfl rfl rfl rfl (Nat.le_of_ble_eq_true rfl) ⟨rfl, rfl, (Nat.le_of_ble_eq_true rfl), (Nat.le_of_ble_eq_true rfl)⟩ dX12_chance_100 (fun tq14 okq14 => ?_)
                refine at_istore (pc := 103) (lv' := [(7, vi q14.1), (0, vr g 94), (2, vi v2), (3, vi v3), (4, vi v4), (5, vi v5), (6, vi v6)]) C dX12_chance_103 (Nat.le_of_ble_eq_true rfl) rfl ?_
                refine at_aload_n (pc := 105) C 1 dX12_chance_105 rfl rfl ?_
                refine at_aload_n (pc := 106) C 1 dX12_chance_106 rfl rfl ?_
                refine at_geti (pc := 107) (jz := 14) C fw_12_135 kd94 rfl (Nat.le_of_ble_eq_true rfl) rfl rfl dX12_chance_107 ?_
                obtain ⟨q15, eq15, hF⟩ := bind_some' hF
                refine at_callV (pc := 110) (ci := 12) C (c_X12_draw l g N (q14.2.1 94 14) q14.2 q15 (okq14 94 14) okq14 eq15) kv_X12_draw w1918 kd94 rfl rfl rfl rfl (Nat.le_of_ble_eq_true rfl) ⟨rfl, rfl, (Nat.le_of_ble_eq_true rfl), (Nat.le_of_ble_eq_true rfl)⟩ dX12_chance_110 (fun tq15 okq15 => ?_)
                refine at_istore (pc := 113) (lv' := [(8, vi q15.1), (7, vi q14.1), (0, vr g 94), (2, vi v2), (3, vi v3), (4, vi v4), (5, vi v5), (6, vi v6)]) C dX12_chance_113 (Nat.le_of_ble_eq_true rfl) rfl ?_
                refine at_aload_n (pc := 115) C 2 dX12_chance_115 rfl rfl ?_
                refine at_sipush (pc := 116) C dX12_chance_116 (by decide) ?_
                obtain ⟨q16, eq16, hF⟩ := bind_some' hF
                refine at_callV (pc := 119) (ci := 12) C (c_X12_draw l g N 1000 q15.2 q16 (show inR 1000 from ⟨by decide, by decide⟩) okq15 eq16) kv_X12_draw w1918 kd94 rfl rfl rfl rfl (Nat.le_of_ble_eq_true rfl) ⟨rfl, rfl, (Nat.le_of_ble_eq_true rfl), (Nat.le_of_ble_eq_true rfl)⟩ dX12_chance_119 (fun tq16 okq16 => ?_)
                refine at_iconst (pc := 122) C dX12_chance_122 ?_
                refine at_iadd (pc := 123) C dX12_chance_123 ?_
                refine at_istore (pc := 124) (lv' := [(9, vi (ja q16.1 1)), (8, vi q15.1), (7, vi q14.1), (0, vr g 94), (2, vi v2), (3, vi v3), (4, vi v4), (5, vi v5), (6, vi v6)]) C dX12_chance_124 (Nat.le_of_ble_eq_true rfl) rfl ?_
                refine at_aload_n (pc := 126) C 3 dX12_chance_126 rfl rfl ?_
                refine at_iload (pc := 127) C 2 dX12_chance_127 rfl ?_
                refine at_iload (pc := 129) C 1 dX12_chance_129 rfl ?_
                obtain ⟨q17, eq17, hF⟩ := bind_some' hF
                refine at_callV (pc := 131) (ci := 12) C (c_X12_isLink l g N q14.1 q15.1 q16.2 q17 tq14 tq15 okq16 eq17) kv_X12_isLink w1577 kd94 rfl rfl rfl rfl (Nat.le_of_ble_eq_true rfl) ⟨rfl, rfl, (Nat.le_of_ble_eq_true rfl), (Nat.le_of_ble_eq_true rfl)⟩ dX12_chance_131 (fun tq17 okq17 => ?_)
                refine at_if_eq (pc := 134) (tgt := 183) C (isB.r tq17) dX12_chance_134 rfl (fun c18 => ?_) (fun c18 => ?_)
                · have hF := (if_pos c18).symm.trans hF
                  refine at_sub (lv' := [(0, vr g 94), (2, vi v2), (3, vi v3), (4, vi v4), (5, vi v5), (6, vi v6)]) [3, 4, 5, 6, 7, 8] rfl ?_
                  exact J183 v4 v5 v6 q16.2 h4 h5 h6 okq16 hF
                · have hF := (if_neg c18).symm.trans hF
                  refine at_aload_n (pc := 137) C 3 dX12_chance_137 rfl rfl ?_
                  refine at_iconst (pc := 138) C dX12_chance_138 ?_
                  obtain ⟨q19, eq19, hF⟩ := bind_some' hF
                  refine at_callV (pc := 139) (ci := 12) C (c_X12_of l g N 0 q16.2 q19 (isB.r (Or.inl rfl)) okq16 eq19) kv_X12_of w1565 kd94 rfl rfl rfl rfl (Nat.le_of_ble_eq_true rfl) ⟨rfl, rfl, (Nat.le_of_ble_eq_true rfl), (Nat.le_of_ble_eq_true rfl)⟩ dX12_chance_139 (fun tq19 okq19 => ?_)
                  refine at_bipush (pc := 142) C dX12_chance_142 (by decide) ?_
                  refine at_icmp_eq (pc := 144) (tgt := 183) C tq19 (show inR 30 from ⟨by decide, by decide⟩) dX12_chance_144 rfl (fun c20 => ?_) (fun c20 => ?_)
                  · have hF := (if_pos c20).symm.trans hF
                    refine at_sub (lv' := [(0, vr g 94), (2, vi v2), (3, vi v3), (4, vi v4), (5, vi v5), (6, vi v6)]) [3, 4, 5, 6, 7, 8] rfl ?_
                    exact J183 v4 v5 v6 q16.2 h4 h5 h6 okq16 hF
                  · have hF := (if_neg c20).symm.trans hF
                    refine at_aload_n (pc := 147) C 3 dX12_chance_147 rfl rfl ?_
                    refine at_iload (pc := 148) C 2 dX12_chance_148 rfl ?_
                    refine at_iload (pc := 150) C 1 dX12_chance_150 rfl ?_
                    refine at_iload (pc := 152) C 0 dX12_chance_152 rfl ?_
                    obtain ⟨q21, eq21, hF⟩ := bind_some' hF
                    refine at_callV (pc := 154) (ci := 12) C (c_X12_canClaim l g N q14.1 q15.1 (ja q16.1 1) q16.2 q21 tq14 tq15 (ja_R q16.1 1) okq16 eq21) kv_X12_canClaim w1626 kd94 rfl rfl rfl rfl (Nat.le_of_ble_eq_true rfl) ⟨rfl, rfl, (Nat.le_of_ble_eq_true rfl), (Nat.le_of_ble_eq_true rfl)⟩ dX12_chance_154 (fun tq21 okq21 => ?_)
                    refine at_if_ne (pc := 157) (tgt := 163) C (isB.r tq21) dX12_chance_157 rfl (fun c22 => ?_) (fun c22 => ?_)
                    · have hF := (if_neg c22).symm.trans hF
                      refine at_aload_n (pc := 163) C 3 dX12_chance_163 rfl rfl ?_
                      refine at_iload (pc := 164) C 2 dX12_chance_164 rfl ?_
                      refine at_iload (pc := 166) C 1 dX12_chance_166 rfl ?_
                      refine at_iload (pc := 168) C 0 dX12_chance_168 rfl ?_
                      obtain ⟨q23, eq23, hF⟩ := bind_some' hF
                      refine at_callVv (pc := 170) (ci := 12) C (c_X12_claims l g N q14.1 q15.1 (ja q16.1 1) q16.2 q23 tq14 tq15 (ja_R q16.1 1) okq16 eq23) kv_X12_claims w1658 kd94 rfl rfl rfl rfl (Nat.le_of_ble_eq_true rfl) ⟨rfl, rfl, (Nat.le_of_ble_eq_true rfl), (Nat.le_of_ble_eq_true rfl)⟩ dX12_chance_170 (fun okq23 => ?_)
                      refine at_iinc (pc := 173) (lv' := [(4, vi (ja v4 1)), (9, vi (ja q16.1 1)), (8, vi q15.1), (7, vi q14.1), (0, vr g 94), (2, vi v2), (3, vi v3), (5, vi v5), (6, vi v6)]) C 6 dX12_chance_173 rfl (Nat.le_of_ble_eq_true rfl) rfl ?_
                      refine at_iload (pc := 176) C 7 dX12_chance_176 rfl ?_
                      refine at_iload (pc := 178) C 1 dX12_chance_178 rfl ?_
                      refine at_iadd (pc := 180) C dX12_chance_180 ?_
                      refine at_istore (pc := 181) (lv' := [(5, vi (ja v5 (ja q16.1 1))), (4, vi (ja v4 1)), (9, vi (ja q16.1 1)), (8, vi q15.1), (7, vi q14.1), (0, vr g 94), (2, vi v2), (3, vi v3), (6, vi v6)]) C dX12_chance_181 (Nat.le_of_ble_eq_true rfl) rfl ?_
                      refine at_sub (lv' := [(0, vr g 94), (2, vi v2), (3, vi v3), (4, vi (ja v4 1)), (5, vi (ja v5 (ja q16.1 1))), (6, vi v6)]) [5, 6, 7, 1, 0, 8] rfl ?_
                      exact J183 (ja v4 1) (ja v5 (ja q16.1 1)) v6 q23 (ja_R v4 1) (ja_R v5 (ja q16.1 1)) h6 okq23 hF
                    · have hF := (if_pos c22).symm.trans hF
                      refine at_goto (pc := 160) (tgt := 183) C dX12_chance_160 rfl ?_
                      refine at_sub (lv' := [(0, vr g 94), (2, vi v2), (3, vi v3), (4, vi v4), (5, vi v5), (6, vi v6)]) [3, 4, 5, 6, 7, 8] rfl ?_
                      exact J183 v4 v5 v6 q16.2 h4 h5 h6 okq16 hF
            refine at_sub (lv' := [(0, vr g 94), (2, vi v2), (3, vi v3), (4, vi 0), (5, vi 0), (6, vi 0)]) [3, 4, 5, 2, 1, 0] rfl ?_
            exact L89 v2 v3 0 0 0 q9 h2 h3 (isB.r (Or.inl rfl)) (isB.r (Or.inl rfl)) (isB.r (Or.inl rfl)) okq9 hF
          refine at_aload_n (pc := 39) C 0 dX12_chance_39 rfl rfl ?_
          refine at_iload_n (pc := 40) C 1 dX12_chance_40 rfl rfl ?_
          refine at_if_ge (pc := 41) (tgt := 54) C h1 dX12_chance_41 rfl (fun c24 => ?_) (fun c24 => ?_)
          · have hF := (if_pos c24).symm.trans hF
            refine at_iload_n (pc := 54) C 1 dX12_chance_54 rfl rfl ?_
            refine at_i2l (pc := 55) C h1 dX12_chance_55 ?_
            refine at_sub (lv' := [(0, vr g 94), (2, vi v2), (3, vi v3)]) [0, 2, 3] rfl ?_
            exact J56 v2 v3 v1 (upI σ 94 2 0) h2 h3 (inR.lo h1) (OK_up (k := 94) (j := 2) ok (isB.r (Or.inl rfl))) hF
          · have hF := (if_neg c24).symm.trans hF
            refine at_aload_n (pc := 44) C 0 dX12_chance_44 rfl rfl ?_
            refine at_getr (pc := 45) (k' := 100) C 6 fw_12_29 kd94 rfl (Nat.le_of_ble_eq_true rfl) rfl rfl dX12_chance_45 ?_
            refine at_iconst (pc := 48) C dX12_chance_48 ?_
            obtain ⟨b25, hF⟩ := inb_some hF
            refine at_iaload (pc := 49) C kd100 b25 dX12_chance_49 ?_
            refine at_i2l (pc := 50) C ((OK_up (k := 94) (j := 2) ok (isB.r (Or.inl rfl))) 100 2) dX12_chance_50 ?_
            refine at_goto (pc := 51) (tgt := 56) C dX12_chance_51 rfl ?_
            refine at_sub (lv' := [(0, vr g 94), (2, vi v2), (3, vi v3)]) [0, 2, 3] rfl ?_
            exact J56 v2 v3 ((upI σ 94 2 0).1 100 2) (upI σ 94 2 0) h2 h3 (inR.lo ((OK_up (k := 94) (j := 2) ok (isB.r (Or.inl rfl))) 100 2)) (OK_up (k := 94) (j := 2) ok (isB.r (Or.inl rfl))) hF
        · have hF := (if_neg c6).symm.trans hF
          refine at_iconst (pc := 37) C dX12_chance_37 ?_
          obtain rfl := Option.some.inj hF
          exact at_iret (pc := 38) C hr hlk (show inR (-1) from ⟨by decide, by decide⟩) (OK_up (k := 94) (j := 2) ok (isB.r (Or.inl rfl))) dX12_chance_38
abbrev rm_X12_count : Room := { frames := 2, cells := 0, slots := 0, locals := 42 }
def F_X12_count_J149 (N : Nat) (nx107 : (Int × Int) → Option (Int × Sto)) (v1 : Int) (v3 : Int) (t0 : Int) (t1 : Int) (σ : Sto) : Option (Int × Sto) :=
  nx107 ((ja t0 t1), (ja v3 1))
def F_X12_count_J144 (N : Nat) (nx107 : (Int × Int) → Option (Int × Sto)) (v1 : Int) (v3 : Int) (t0 : Int) (σ : Sto) : Option (Int × Sto) :=
  F_X12_count_J149 N nx107 v1 v3 t0 1 σ
def F_X12_count_J148 (N : Nat) (nx107 : (Int × Int) → Option (Int × Sto)) (v1 : Int) (v3 : Int) (t0 : Int) (σ : Sto) : Option (Int × Sto) :=
  F_X12_count_J149 N nx107 v1 v3 t0 0 σ
def F_X12_count_J130 (N : Nat) (nx107 : (Int × Int) → Option (Int × Sto)) (v1 : Int) (v3 : Int) (t0 : Int) (σ : Sto) : Option (Int × Sto) :=
  if v1 = 7 then ((F_X12_result N v3 σ).bind (fun q3 => if q3 ≤ 0 then (F_X12_count_J148 N nx107 v1 v3 t0 σ) else (F_X12_count_J144 N nx107 v1 v3 t0 σ))) else (F_X12_count_J148 N nx107 v1 v3 t0 σ)
def F_X12_count_B107 (N : Nat) (nx107 : (Int × Int) → Option (Int × Sto)) (v1 : Int) (v2 : Int) (v3 : Int) (σ : Sto) : Option (Int × Sto) :=
  if (σ.1 94 14) ≤ v3 then (some (v2, σ)) else (if v1 = 6 then ((F_X12_result N v3 σ).bind (fun q6 => if q6 < 0 then (F_X12_count_J144 N nx107 v1 v3 v2 σ) else (F_X12_count_J130 N nx107 v1 v3 v2 σ))) else (F_X12_count_J130 N nx107 v1 v3 v2 σ))
def F_X12_count_J105 (N : Nat)  (v1 : Int) (v2 : Int) (σ : Sto) : Option (Int × Sto) :=
  loopK (fun q nx107 => F_X12_count_B107 N  nx107 v1 q.1 q.2 σ) N (v2, 0)
def F_X12_count (N : Nat) (v1 : Int) (σ : Sto) : Option (Int × Sto) :=
  if v1 = 0 then (some (((upI σ 94 2 0).1 94 11), (upI σ 94 2 0))) else (if v1 = 1 then (some (((upI σ 94 2 0).1 94 14), (upI σ 94 2 0))) else (if v1 = 2 then ((F_X12_of N 103 (upI σ 94 2 0)).bind (fun q11 => some (q11, (upI σ 94 2 0)))) else (if v1 = 3 then ((F_X12_of N 0 (upI σ 94 2 0)).bind (fun q13 => some (q13, (upI σ 94 2 0)))) else (if v1 = 4 then (inb 0 8 (some (((upI σ 94 2 0).1 100 0), (upI σ 94 2 0)))) else (if v1 = 5 then (inb 1 8 (some (((upI σ 94 2 0).1 100 1), (upI σ 94 2 0)))) else (if v1 = 6 then (F_X12_count_J105 N  v1 0 (upI σ 94 2 0)) else (if v1 = 7 then (F_X12_count_J105 N  v1 0 (upI σ 94 2 0)) else (if v1 = 8 then (some (((upI σ 94 2 0).1 94 25), (upI σ 94 2 0))) else (if v1 = 9 then (some (((upI σ 94 2 0).1 94 1), (upI σ 94 2 0))) else (if v1 = 10 then (inb 3 8 (some (((upI σ 94 2 0).1 100 3), (upI σ 94 2 0)))) else (some ((-1), (upI σ 94 2 0)))))))))))))
set_option maxHeartbeats 4000000 in
set_option maxRecDepth 100000 in
theorem c_X12_count (l : Launch) (g : Geo) (N : Nat) (v1 : Int) (σ : Sto) (res : Int × Sto) (h1 : inR v1) (ok : OK σ) (hF : F_X12_count N v1 σ = some res) : MtI l g yX12_count cX12_count 4 (some .int) rm_X12_count [vr g 94, vi v1] σ res.1 res.2 inR := by
  intro sz
  refine Met.ofAt (own := RX12) (QQ := fun z => QI g z res.1 res.2 inR) (by decide +kernel) (Nat.le_of_ble_eq_true rfl) rfl ?_
  intro p e s m args below meth c C hr hlk
  show At p l e rm_X12_count s m args below meth c 0 0 g 4 (MQ below (QI g s.heap.size res.1 res.2 inR) args s 0 0 (AA g s.heap.size)) 0 [(0, vr g 94), (1, vi v1)] [] σ
  unfold F_X12_count at hF
  have J105 : ∀ (v1 : Int) (v2 : Int) (σ : Sto), inR v1 → isB v2 → OK σ → F_X12_count_J105 N  v1 v2 σ = some res → At p l e rm_X12_count s m args below meth c 0 0 g 4 (MQ below (QI g s.heap.size res.1 res.2 inR) args s 0 0 (AA g s.heap.size)) 105 [(0, vr g 94), (1, vi v1), (2, vi v2)] [] σ := by
    intro v1 v2 σ h1 h2 ok hF
    unfold F_X12_count_J105 at hF
    refine at_iconst (pc := 105) C dX12_count_105 ?_
    refine at_istore_n (pc := 106) (lv' := [(3, vi 0), (0, vr g 94), (1, vi v1), (2, vi v2)]) C dX12_count_106 rfl (Nat.le_of_ble_eq_true rfl) rfl ?_
    have L107 : ∀ (v1 : Int) (v2 : Int) (v3 : Int) (σ : Sto), inR v1 → inR v2 → inR v3 → OK σ → loopK (fun q nx107 => F_X12_count_B107 N  nx107 v1 q.1 q.2 σ) N (v2, v3) = some res → At p l e rm_X12_count s m args below meth c 0 0 g 4 (MQ below (QI g s.heap.size res.1 res.2 inR) args s 0 0 (AA g s.heap.size)) 107 [(0, vr g 94), (1, vi v1), (2, vi v2), (3, vi v3)] [] σ := by
      intro v1 v2 v3 σ h1 h2 h3 ok hF
      refine loopK_ind (res := res) (P := fun (q : Int × Int) => inR q.1 → inR q.2 → At p l e rm_X12_count s m args below meth c 0 0 g 4 (MQ below (QI g s.heap.size res.1 res.2 inR) args s 0 0 (AA g s.heap.size)) 107 [(0, vr g 94), (1, vi v1), (2, vi q.1), (3, vi q.2)] [] σ) ?_ N _ hF h2 h3
      intro nx107 q ih107 hF
      obtain ⟨v2, v3⟩ := q
      intro h2 h3
      have hF : F_X12_count_B107 N  nx107 v1 v2 v3 σ = some res := hF
      unfold F_X12_count_B107 at hF
      refine at_iload_n (pc := 107) C 3 dX12_count_107 rfl rfl ?_
      refine at_aload_n (pc := 108) C 0 dX12_count_108 rfl rfl ?_
      refine at_geti (pc := 109) (jz := 14) C fw_12_135 kd94 rfl (Nat.le_of_ble_eq_true rfl) rfl rfl dX12_count_109 ?_
      refine at_icmp_ge (pc := 112) (tgt := 157) C h3 (ok 94 14) dX12_count_112 rfl (fun c1 => ?_) (fun c1 => ?_)
      · have hF := (if_pos c1).symm.trans hF
        refine at_iload_n (pc := 157) C 2 dX12_count_157 rfl rfl ?_
        obtain rfl := Option.some.inj hF
        exact at_iret (pc := 158) C hr hlk h2 ok dX12_count_158
      · have hF := (if_neg c1).symm.trans hF
        have J149 : ∀ (v3 : Int) (t0 : Int) (t1 : Int), inR v3 → inR t0 → isB t1 → F_X12_count_J149 N nx107 v1 v3 t0 t1 σ = some res → At p l e rm_X12_count s m args below meth c 0 0 g 4 (MQ below (QI g s.heap.size res.1 res.2 inR) args s 0 0 (AA g s.heap.size)) 149 [(0, vr g 94), (1, vi v1), (3, vi v3)] [vi t1, vi t0] σ := by
          intro v3 t0 t1 h3 ht0 ht1 hF
          unfold F_X12_count_J149 at hF
          refine at_iadd (pc := 149) C dX12_count_149 ?_
          refine at_istore_n (pc := 150) (lv' := [(2, vi (ja t0 t1)), (0, vr g 94), (1, vi v1), (3, vi v3)]) C dX12_count_150 rfl (Nat.le_of_ble_eq_true rfl) rfl ?_
          refine at_iinc (pc := 151) (lv' := [(3, vi (ja v3 1)), (2, vi (ja t0 t1)), (0, vr g 94), (1, vi v1)]) C 3 dX12_count_151 rfl (Nat.le_of_ble_eq_true rfl) rfl ?_
          refine at_goto (pc := 154) (tgt := 107) C dX12_count_154 rfl ?_
          refine at_sub (lv' := [(0, vr g 94), (1, vi v1), (2, vi (ja t0 t1)), (3, vi (ja v3 1))]) [2, 3, 1, 0] rfl ?_
          exact ih107 _ hF (ja_R t0 t1) (ja_R v3 1)
        have J144 : ∀ (v3 : Int) (t0 : Int), inR v3 → inR t0 → F_X12_count_J144 N nx107 v1 v3 t0 σ = some res → At p l e rm_X12_count s m args below meth c 0 0 g 4 (MQ below (QI g s.heap.size res.1 res.2 inR) args s 0 0 (AA g s.heap.size)) 144 [(0, vr g 94), (1, vi v1), (3, vi v3)] [vi t0] σ := by
          intro v3 t0 h3 ht0 hF
          unfold F_X12_count_J144 at hF
          refine at_iconst (pc := 144) C dX12_count_144 ?_
          refine at_goto (pc := 145) (tgt := 149) C dX12_count_145 rfl ?_
          exact J149 v3 t0 1 h3 ht0 (Or.inr rfl) hF
        have J130 : ∀ (v3 : Int) (t0 : Int), inR v3 → inR t0 → F_X12_count_J130 N nx107 v1 v3 t0 σ = some res → At p l e rm_X12_count s m args below meth c 0 0 g 4 (MQ below (QI g s.heap.size res.1 res.2 inR) args s 0 0 (AA g s.heap.size)) 130 [(0, vr g 94), (1, vi v1), (3, vi v3)] [vi t0] σ := by
          intro v3 t0 h3 ht0 hF
          unfold F_X12_count_J130 at hF
          have J148 : ∀ (v3 : Int) (t0 : Int), inR v3 → inR t0 → F_X12_count_J148 N nx107 v1 v3 t0 σ = some res → At p l e rm_X12_count s m args below meth c 0 0 g 4 (MQ below (QI g s.heap.size res.1 res.2 inR) args s 0 0 (AA g s.heap.size)) 148 [(0, vr g 94), (1, vi v1), (3, vi v3)] [vi t0] σ := by
            intro v3 t0 h3 ht0 hF
            unfold F_X12_count_J148 at hF
            refine at_iconst (pc := 148) C dX12_count_148 ?_
            exact J149 v3 t0 0 h3 ht0 (Or.inl rfl) hF
          refine at_iload_n (pc := 130) C 1 dX12_count_130 rfl rfl ?_
          refine at_bipush (pc := 131) C dX12_count_131 (by decide) ?_
          refine at_icmp_ne (pc := 133) (tgt := 148) C h1 (show inR 7 from ⟨by decide, by decide⟩) dX12_count_133 rfl (fun c2 => ?_) (fun c2 => ?_)
          · have hF := (if_neg c2).symm.trans hF
            exact J148 v3 t0 h3 ht0 hF
          · have hF := (if_pos c2).symm.trans hF
            refine at_aload_n (pc := 136) C 0 dX12_count_136 rfl rfl ?_
            refine at_iload_n (pc := 137) C 2 dX12_count_137 rfl rfl ?_
            obtain ⟨q3, eq3, hF⟩ := bind_some' hF
            refine at_callV (pc := 138) (ci := 12) C (c_X12_result l g N v3 σ q3 h3 ok eq3) kv_X12_result w1585 kd94 rfl rfl rfl rfl (Nat.le_of_ble_eq_true rfl) ⟨rfl, rfl, (Nat.le_of_ble_eq_true rfl), (Nat.le_of_ble_eq_true rfl)⟩ dX12_count_138 (fun tq3 okq3 => ?_)
            refine at_if_le (pc := 141) (tgt := 148) C tq3 dX12_count_141 rfl (fun c4 => ?_) (fun c4 => ?_)
            · have hF := (if_pos c4).symm.trans hF
              exact J148 v3 t0 h3 ht0 hF
            · have hF := (if_neg c4).symm.trans hF
              exact J144 v3 t0 h3 ht0 hF
        refine at_iload_n (pc := 115) C 2 dX12_count_115 rfl rfl ?_
        refine at_iload_n (pc := 116) C 1 dX12_count_116 rfl rfl ?_
        refine at_bipush (pc := 117) C dX12_count_117 (by decide) ?_
        refine at_icmp_ne (pc := 119) (tgt := 130) C h1 (show inR 6 from ⟨by decide, by decide⟩) dX12_count_119 rfl (fun c5 => ?_) (fun c5 => ?_)
        · have hF := (if_neg c5).symm.trans hF
          refine at_sub (lv' := [(0, vr g 94), (1, vi v1), (3, vi v3)]) [0, 1, 3] rfl ?_
          exact J130 v3 v2 h3 h2 hF
        · have hF := (if_pos c5).symm.trans hF
          refine at_aload_n (pc := 122) C 0 dX12_count_122 rfl rfl ?_
          refine at_iload_n (pc := 123) C 3 dX12_count_123 rfl rfl ?_
          obtain ⟨q6, eq6, hF⟩ := bind_some' hF
          refine at_callV (pc := 124) (ci := 12) C (c_X12_result l g N v3 σ q6 h3 ok eq6) kv_X12_result w1585 kd94 rfl rfl rfl rfl (Nat.le_of_ble_eq_true rfl) ⟨rfl, rfl, (Nat.le_of_ble_eq_true rfl), (Nat.le_of_ble_eq_true rfl)⟩ dX12_count_124 (fun tq6 okq6 => ?_)
          refine at_if_lt (pc := 127) (tgt := 144) C tq6 dX12_count_127 rfl (fun c7 => ?_) (fun c7 => ?_)
          · have hF := (if_pos c7).symm.trans hF
            refine at_sub (lv' := [(0, vr g 94), (1, vi v1), (3, vi v3)]) [0, 1, 3] rfl ?_
            exact J144 v3 v2 h3 h2 hF
          · have hF := (if_neg c7).symm.trans hF
            refine at_sub (lv' := [(0, vr g 94), (1, vi v1), (3, vi v3)]) [0, 1, 3] rfl ?_
            exact J130 v3 v2 h3 h2 hF
    refine at_sub (lv' := [(0, vr g 94), (1, vi v1), (2, vi v2), (3, vi 0)]) [1, 2, 3, 0] rfl ?_
    exact L107 v1 v2 0 σ h1 (isB.r h2) (isB.r (Or.inl rfl)) ok hF
  refine at_aload_n (pc := 0) C 0 dX12_count_0 rfl rfl ?_
  refine at_iconst (pc := 1) C dX12_count_1 ?_
  refine at_puti (pc := 2) (jz := 2) C fu_12_81 kd94 rfl (Nat.le_of_ble_eq_true rfl) rfl rfl dX12_count_2 ?_
  refine at_iconst (pc := 5) C dX12_count_5 ?_
  refine at_istore_n (pc := 6) (lv' := [(2, vi 0), (0, vr g 94), (1, vi v1)]) C dX12_count_6 rfl (Nat.le_of_ble_eq_true rfl) rfl ?_
  refine at_iload_n (pc := 7) C 2 dX12_count_7 rfl rfl ?_
  by_cases c8 : v1 = 0
  · have hF := (if_pos c8).symm.trans hF
    refine at_tin (pc := 8) (off := 60) (tgt := 68) C dX12_count_8 h1 (by rw [c8]; decide) (by rw [c8]; decide) (by rw [c8]; rfl) rfl ?_
    refine at_aload_n (pc := 68) C 1 dX12_count_68 rfl rfl ?_
    refine at_geti (pc := 69) (jz := 11) C fw_12_132 kd94 rfl (Nat.le_of_ble_eq_true rfl) rfl rfl dX12_count_69 ?_
    obtain rfl := Option.some.inj hF
    exact at_iret (pc := 72) C hr hlk (show inR ((upI σ 94 2 0).1 94 11) from ((OK_up (k := 94) (j := 2) ok (isB.r (Or.inl rfl))) 94 11)) (OK_up (k := 94) (j := 2) ok (isB.r (Or.inl rfl))) dX12_count_72
  · have hF := (if_neg c8).symm.trans hF
    by_cases c9 : v1 = 1
    · have hF := (if_pos c9).symm.trans hF
      refine at_tin (pc := 8) (off := 65) (tgt := 73) C dX12_count_8 h1 (by rw [c9]; decide) (by rw [c9]; decide) (by rw [c9]; rfl) rfl ?_
      refine at_aload_n (pc := 73) C 1 dX12_count_73 rfl rfl ?_
      refine at_geti (pc := 74) (jz := 14) C fw_12_135 kd94 rfl (Nat.le_of_ble_eq_true rfl) rfl rfl dX12_count_74 ?_
      obtain rfl := Option.some.inj hF
      exact at_iret (pc := 77) C hr hlk (show inR ((upI σ 94 2 0).1 94 14) from ((OK_up (k := 94) (j := 2) ok (isB.r (Or.inl rfl))) 94 14)) (OK_up (k := 94) (j := 2) ok (isB.r (Or.inl rfl))) dX12_count_77
    · have hF := (if_neg c9).symm.trans hF
      by_cases c10 : v1 = 2
      · have hF := (if_pos c10).symm.trans hF
        refine at_tin (pc := 8) (off := 70) (tgt := 78) C dX12_count_8 h1 (by rw [c10]; decide) (by rw [c10]; decide) (by rw [c10]; rfl) rfl ?_
        refine at_aload_n (pc := 78) C 1 dX12_count_78 rfl rfl ?_
        refine at_bipush (pc := 79) C dX12_count_79 (by decide) ?_
        obtain ⟨q11, eq11, hF⟩ := bind_some' hF
        refine at_callV (pc := 81) (ci := 12) C (c_X12_of l g N 103 (upI σ 94 2 0) q11 (show inR 103 from ⟨by decide, by decide⟩) (OK_up (k := 94) (j := 2) ok (isB.r (Or.inl rfl))) eq11) kv_X12_of w1565 kd94 rfl rfl rfl rfl (Nat.le_of_ble_eq_true rfl) ⟨rfl, rfl, (Nat.le_of_ble_eq_true rfl), (Nat.le_of_ble_eq_true rfl)⟩ dX12_count_81 (fun tq11 okq11 => ?_)
        obtain rfl := Option.some.inj hF
        exact at_iret (pc := 84) C hr hlk tq11 (OK_up (k := 94) (j := 2) ok (isB.r (Or.inl rfl))) dX12_count_84
      · have hF := (if_neg c10).symm.trans hF
        by_cases c12 : v1 = 3
        · have hF := (if_pos c12).symm.trans hF
          refine at_tin (pc := 8) (off := 77) (tgt := 85) C dX12_count_8 h1 (by rw [c12]; decide) (by rw [c12]; decide) (by rw [c12]; rfl) rfl ?_
          refine at_aload_n (pc := 85) C 1 dX12_count_85 rfl rfl ?_
          refine at_iconst (pc := 86) C dX12_count_86 ?_
          obtain ⟨q13, eq13, hF⟩ := bind_some' hF
          refine at_callV (pc := 87) (ci := 12) C (c_X12_of l g N 0 (upI σ 94 2 0) q13 (isB.r (Or.inl rfl)) (OK_up (k := 94) (j := 2) ok (isB.r (Or.inl rfl))) eq13) kv_X12_of w1565 kd94 rfl rfl rfl rfl (Nat.le_of_ble_eq_true rfl) ⟨rfl, rfl, (Nat.le_of_ble_eq_true rfl), (Nat.le_of_ble_eq_true rfl)⟩ dX12_count_87 (fun tq13 okq13 => ?_)
          obtain rfl := Option.some.inj hF
          exact at_iret (pc := 90) C hr hlk tq13 (OK_up (k := 94) (j := 2) ok (isB.r (Or.inl rfl))) dX12_count_90
        · have hF := (if_neg c12).symm.trans hF
          by_cases c14 : v1 = 4
          · have hF := (if_pos c14).symm.trans hF
            refine at_tin (pc := 8) (off := 83) (tgt := 91) C dX12_count_8 h1 (by rw [c14]; decide) (by rw [c14]; decide) (by rw [c14]; rfl) rfl ?_
            refine at_aload_n (pc := 91) C 1 dX12_count_91 rfl rfl ?_
            refine at_getr (pc := 92) (k' := 100) C 6 fw_12_29 kd94 rfl (Nat.le_of_ble_eq_true rfl) rfl rfl dX12_count_92 ?_
            refine at_iconst (pc := 95) C dX12_count_95 ?_
            obtain ⟨b15, hF⟩ := inb_some hF
            refine at_iaload (pc := 96) C kd100 b15 dX12_count_96 ?_
            obtain rfl := Option.some.inj hF
            exact at_iret (pc := 97) C hr hlk (show inR ((upI σ 94 2 0).1 100 0) from ((OK_up (k := 94) (j := 2) ok (isB.r (Or.inl rfl))) 100 0)) (OK_up (k := 94) (j := 2) ok (isB.r (Or.inl rfl))) dX12_count_97
          · have hF := (if_neg c14).symm.trans hF
            by_cases c16 : v1 = 5
            · have hF := (if_pos c16).symm.trans hF
              refine at_tin (pc := 8) (off := 90) (tgt := 98) C dX12_count_8 h1 (by rw [c16]; decide) (by rw [c16]; decide) (by rw [c16]; rfl) rfl ?_
              refine at_aload_n (pc := 98) C 1 dX12_count_98 rfl rfl ?_
              refine at_getr (pc := 99) (k' := 100) C 6 fw_12_29 kd94 rfl (Nat.le_of_ble_eq_true rfl) rfl rfl dX12_count_99 ?_
              refine at_iconst (pc := 102) C dX12_count_102 ?_
              obtain ⟨b17, hF⟩ := inb_some hF
              refine at_iaload (pc := 103) C kd100 b17 dX12_count_103 ?_
              obtain rfl := Option.some.inj hF
              exact at_iret (pc := 104) C hr hlk (show inR ((upI σ 94 2 0).1 100 1) from ((OK_up (k := 94) (j := 2) ok (isB.r (Or.inl rfl))) 100 1)) (OK_up (k := 94) (j := 2) ok (isB.r (Or.inl rfl))) dX12_count_104
            · have hF := (if_neg c16).symm.trans hF
              by_cases c18 : v1 = 6
              · have hF := (if_pos c18).symm.trans hF
                refine at_tin (pc := 8) (off := 97) (tgt := 105) C dX12_count_8 h1 (by rw [c18]; decide) (by rw [c18]; decide) (by rw [c18]; rfl) rfl ?_
                refine at_sub (lv' := [(0, vr g 94), (1, vi v1), (2, vi 0)]) [1, 2, 0] rfl ?_
                exact J105 v1 0 (upI σ 94 2 0) h1 (Or.inl rfl) (OK_up (k := 94) (j := 2) ok (isB.r (Or.inl rfl))) hF
              · have hF := (if_neg c18).symm.trans hF
                by_cases c19 : v1 = 7
                · have hF := (if_pos c19).symm.trans hF
                  refine at_tin (pc := 8) (off := 97) (tgt := 105) C dX12_count_8 h1 (by rw [c19]; decide) (by rw [c19]; decide) (by rw [c19]; rfl) rfl ?_
                  refine at_sub (lv' := [(0, vr g 94), (1, vi v1), (2, vi 0)]) [1, 2, 0] rfl ?_
                  exact J105 v1 0 (upI σ 94 2 0) h1 (Or.inl rfl) (OK_up (k := 94) (j := 2) ok (isB.r (Or.inl rfl))) hF
                · have hF := (if_neg c19).symm.trans hF
                  by_cases c20 : v1 = 8
                  · have hF := (if_pos c20).symm.trans hF
                    refine at_tin (pc := 8) (off := 151) (tgt := 159) C dX12_count_8 h1 (by rw [c20]; decide) (by rw [c20]; decide) (by rw [c20]; rfl) rfl ?_
                    refine at_aload_n (pc := 159) C 1 dX12_count_159 rfl rfl ?_
                    refine at_geti (pc := 160) (jz := 25) C fw_12_151 kd94 rfl (Nat.le_of_ble_eq_true rfl) rfl rfl dX12_count_160 ?_
                    obtain rfl := Option.some.inj hF
                    exact at_iret (pc := 163) C hr hlk (show inR ((upI σ 94 2 0).1 94 25) from ((OK_up (k := 94) (j := 2) ok (isB.r (Or.inl rfl))) 94 25)) (OK_up (k := 94) (j := 2) ok (isB.r (Or.inl rfl))) dX12_count_163
                  · have hF := (if_neg c20).symm.trans hF
                    by_cases c21 : v1 = 9
                    · have hF := (if_pos c21).symm.trans hF
                      refine at_tin (pc := 8) (off := 156) (tgt := 164) C dX12_count_8 h1 (by rw [c21]; decide) (by rw [c21]; decide) (by rw [c21]; rfl) rfl ?_
                      refine at_aload_n (pc := 164) C 1 dX12_count_164 rfl rfl ?_
                      refine at_geti (pc := 165) (jz := 1) C fw_12_84 kd94 rfl (Nat.le_of_ble_eq_true rfl) rfl rfl dX12_count_165 ?_
                      obtain rfl := Option.some.inj hF
                      exact at_iret (pc := 168) C hr hlk (show inR ((upI σ 94 2 0).1 94 1) from ((OK_up (k := 94) (j := 2) ok (isB.r (Or.inl rfl))) 94 1)) (OK_up (k := 94) (j := 2) ok (isB.r (Or.inl rfl))) dX12_count_168
                    · have hF := (if_neg c21).symm.trans hF
                      by_cases c22 : v1 = 10
                      · have hF := (if_pos c22).symm.trans hF
                        refine at_tin (pc := 8) (off := 161) (tgt := 169) C dX12_count_8 h1 (by rw [c22]; decide) (by rw [c22]; decide) (by rw [c22]; rfl) rfl ?_
                        refine at_aload_n (pc := 169) C 1 dX12_count_169 rfl rfl ?_
                        refine at_getr (pc := 170) (k' := 100) C 6 fw_12_29 kd94 rfl (Nat.le_of_ble_eq_true rfl) rfl rfl dX12_count_170 ?_
                        refine at_iconst (pc := 173) C dX12_count_173 ?_
                        obtain ⟨b23, hF⟩ := inb_some hF
                        refine at_iaload (pc := 174) C kd100 b23 dX12_count_174 ?_
                        obtain rfl := Option.some.inj hF
                        exact at_iret (pc := 175) C hr hlk (show inR ((upI σ 94 2 0).1 100 3) from ((OK_up (k := 94) (j := 2) ok (isB.r (Or.inl rfl))) 100 3)) (OK_up (k := 94) (j := 2) ok (isB.r (Or.inl rfl))) dX12_count_175
                      · have hF := (if_neg c22).symm.trans hF
                        refine at_tout (pc := 8) (tgt := 176) C h1 dX12_count_8 (by omega) rfl ?_
                        refine at_iconst (pc := 176) C dX12_count_176 ?_
                        obtain rfl := Option.some.inj hF
                        exact at_iret (pc := 177) C hr hlk (show inR (-1) from ⟨by decide, by decide⟩) (OK_up (k := 94) (j := 2) ok (isB.r (Or.inl rfl))) dX12_count_177
