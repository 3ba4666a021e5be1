abbrev rm_X11_pays : Room := { frames := 6, cells := 0, slots := 0, locals := 150 }
def F_X11_pays (N : Nat) (v1 : Int) (v2 : Int) (σ : Sto) : Option (Int × Sto) :=
  asB (σ.1 0 1) (fun b1 => (F_X0_hasMember N b1 v1 σ).bind (fun q2 => if q2 = 0 then (some ((-1), σ)) else ((F_X11_refreshFlow N σ).bind (fun q4 => if v2 = 0 then ((F_X11_paidForRelief N v1 (-1) q4).bind (fun q6 => some (q6, q4))) else (if v2 = 1 then ((F_X11_paidForRelief N (-1) v1 q4).bind (fun q8 => some (q8, q4))) else (if v2 = 2 then ((F_X11_paidForClaims N v1 (-1) q4).bind (fun q10 => some (q10, q4))) else (if v2 = 3 then ((F_X11_paidForClaims N (-1) v1 q4).bind (fun q12 => some (q12, q4))) else (some ((-1), q4)))))))))
set_option maxHeartbeats 4000000 in
set_option maxRecDepth 100000 in
theorem c_X11_pays (l : Launch) (g : Geo) (N : Nat) (v1 : Int) (v2 : Int) (σ : Sto) (res : Int × Sto) (h1 : inR v1) (h2 : inR v2) (ok : OK σ) (hF : F_X11_pays N v1 v2 σ = some res) : MtI l g yX11_pays cX11_pays 3 (some .int) rm_X11_pays [vr g 0, vi v1, vi v2] σ res.1 res.2 inR := by
  intro sz
  refine Met.ofAt (own := RX11) (QQ := fun z => QI g z res.1 res.2 inR) (by decide +kernel) (Nat.le_of_ble_eq_true rfl) rfl ?_
  intro p e s m args below meth c C hr hlk
  show At p l e rm_X11_pays s m args below meth c 0 0 g 3 (MQ below (QI g s.heap.size res.1 res.2 inR) args s 0 0 (AA g s.heap.size)) 0 [(0, vr g 0), (1, vi v1), (2, vi v2)] [] σ
  unfold F_X11_pays at hF
  refine at_aload_n (pc := 0) C 0 dX11_pays_0 rfl rfl ?_
  obtain ⟨b1, eb1, kb1, hF⟩ := asB_some hF
  refine at_getd (pc := 1) (jz := 1) (k2 := b1) C fw_11_19 kd0 rfl (Nat.le_of_ble_eq_true rfl) rfl rfl eb1 dX11_pays_1 ?_
  refine at_iload_n (pc := 4) C 1 dX11_pays_4 rfl rfl ?_
  obtain ⟨q2, eq2, hF⟩ := bind_some' hF
  refine at_callV (pc := 5) (ci := 0) C (c_X0_hasMember l g N b1 v1 σ q2 kb1 h1 ok eq2) kv_X0_hasMember w724 kb1 rfl rfl rfl rfl (Nat.le_of_ble_eq_true rfl) ⟨rfl, rfl, (Nat.le_of_ble_eq_true rfl), (Nat.le_of_ble_eq_true rfl)⟩ dX11_pays_5 (fun tq2 okq2 => ?_)
  refine at_if_ne (pc := 8) (tgt := 13) C (isB.r tq2) dX11_pays_8 rfl (fun c3 => ?_) (fun c3 => ?_)
  · have hF := (if_neg c3).symm.trans hF
    refine at_aload_n (pc := 13) C 0 dX11_pays_13 rfl rfl ?_
    obtain ⟨q4, eq4, hF⟩ := bind_some' hF
    refine at_callVv (pc := 14) (ci := 11) C (c_X11_refreshFlow l g N  σ q4  ok eq4) kv_X11_refreshFlow w945 kd0 rfl rfl rfl rfl (Nat.le_of_ble_eq_true rfl) ⟨rfl, rfl, (Nat.le_of_ble_eq_true rfl), (Nat.le_of_ble_eq_true rfl)⟩ dX11_pays_14 (fun okq4 => ?_)
    refine at_iload_n (pc := 17) C 2 dX11_pays_17 rfl rfl ?_
    by_cases c5 : v2 = 0
    · have hF := (if_pos c5).symm.trans hF
      refine at_tin (pc := 18) (off := 30) (tgt := 48) C dX11_pays_18 h2 (by rw [c5]; decide) (by rw [c5]; decide) (by rw [c5]; rfl) rfl ?_
      refine at_aload_n (pc := 48) C 0 dX11_pays_48 rfl rfl ?_
      refine at_iload_n (pc := 49) C 1 dX11_pays_49 rfl rfl ?_
      refine at_iconst (pc := 50) C dX11_pays_50 ?_
      obtain ⟨q6, eq6, hF⟩ := bind_some' hF
      refine at_callV (pc := 51) (ci := 11) C (c_X11_paidForRelief l g N v1 (-1) q4 q6 h1 (show inR (-1) from ⟨by decide, by decide⟩) okq4 eq6) kv_X11_paidForRelief w1066 kd0 rfl rfl rfl rfl (Nat.le_of_ble_eq_true rfl) ⟨rfl, rfl, (Nat.le_of_ble_eq_true rfl), (Nat.le_of_ble_eq_true rfl)⟩ dX11_pays_51 (fun tq6 okq6 => ?_)
      obtain rfl := Option.some.inj hF
      exact at_iret (pc := 54) C hr hlk tq6 okq4 dX11_pays_54
    · have hF := (if_neg c5).symm.trans hF
      by_cases c7 : v2 = 1
      · have hF := (if_pos c7).symm.trans hF
        refine at_tin (pc := 18) (off := 37) (tgt := 55) C dX11_pays_18 h2 (by rw [c7]; decide) (by rw [c7]; decide) (by rw [c7]; rfl) rfl ?_
        refine at_aload_n (pc := 55) C 0 dX11_pays_55 rfl rfl ?_
        refine at_iconst (pc := 56) C dX11_pays_56 ?_
        refine at_iload_n (pc := 57) C 1 dX11_pays_57 rfl rfl ?_
        obtain ⟨q8, eq8, hF⟩ := bind_some' hF
        refine at_callV (pc := 58) (ci := 11) C (c_X11_paidForRelief l g N (-1) v1 q4 q8 (show inR (-1) from ⟨by decide, by decide⟩) h1 okq4 eq8) kv_X11_paidForRelief w1066 kd0 rfl rfl rfl rfl (Nat.le_of_ble_eq_true rfl) ⟨rfl, rfl, (Nat.le_of_ble_eq_true rfl), (Nat.le_of_ble_eq_true rfl)⟩ dX11_pays_58 (fun tq8 okq8 => ?_)
        obtain rfl := Option.some.inj hF
        exact at_iret (pc := 61) C hr hlk tq8 okq4 dX11_pays_61
      · have hF := (if_neg c7).symm.trans hF
        by_cases c9 : v2 = 2
        · have hF := (if_pos c9).symm.trans hF
          refine at_tin (pc := 18) (off := 44) (tgt := 62) C dX11_pays_18 h2 (by rw [c9]; decide) (by rw [c9]; decide) (by rw [c9]; rfl) rfl ?_
          refine at_aload_n (pc := 62) C 0 dX11_pays_62 rfl rfl ?_
          refine at_iload_n (pc := 63) C 1 dX11_pays_63 rfl rfl ?_
          refine at_iconst (pc := 64) C dX11_pays_64 ?_
          obtain ⟨q10, eq10, hF⟩ := bind_some' hF
          refine at_callV (pc := 65) (ci := 11) C (c_X11_paidForClaims l g N v1 (-1) q4 q10 h1 (show inR (-1) from ⟨by decide, by decide⟩) okq4 eq10) kv_X11_paidForClaims w1074 kd0 rfl rfl rfl rfl (Nat.le_of_ble_eq_true rfl) ⟨rfl, rfl, (Nat.le_of_ble_eq_true rfl), (Nat.le_of_ble_eq_true rfl)⟩ dX11_pays_65 (fun tq10 okq10 => ?_)
          obtain rfl := Option.some.inj hF
          exact at_iret (pc := 68) C hr hlk tq10 okq4 dX11_pays_68
        · have hF := (if_neg c9).symm.trans hF
          by_cases c11 : v2 = 3
          · have hF := (if_pos c11).symm.trans hF
            refine at_tin (pc := 18) (off := 51) (tgt := 69) C dX11_pays_18 h2 (by rw [c11]; decide) (by rw [c11]; decide) (by rw [c11]; rfl) rfl ?_
            refine at_aload_n (pc := 69) C 0 dX11_pays_69 rfl rfl ?_
            refine at_iconst (pc := 70) C dX11_pays_70 ?_
            refine at_iload_n (pc := 71) C 1 dX11_pays_71 rfl rfl ?_
            obtain ⟨q12, eq12, hF⟩ := bind_some' hF
            refine at_callV (pc := 72) (ci := 11) C (c_X11_paidForClaims l g N (-1) v1 q4 q12 (show inR (-1) from ⟨by decide, by decide⟩) h1 okq4 eq12) kv_X11_paidForClaims w1074 kd0 rfl rfl rfl rfl (Nat.le_of_ble_eq_true rfl) ⟨rfl, rfl, (Nat.le_of_ble_eq_true rfl), (Nat.le_of_ble_eq_true rfl)⟩ dX11_pays_72 (fun tq12 okq12 => ?_)
            obtain rfl := Option.some.inj hF
            exact at_iret (pc := 75) C hr hlk tq12 okq4 dX11_pays_75
          · have hF := (if_neg c11).symm.trans hF
            refine at_tout (pc := 18) (tgt := 76) C h2 dX11_pays_18 (by omega) rfl ?_
            refine at_iconst (pc := 76) C dX11_pays_76 ?_
            obtain rfl := Option.some.inj hF
            exact at_iret (pc := 77) C hr hlk (show inR (-1) from ⟨by decide, by decide⟩) okq4 dX11_pays_77
  · have hF := (if_pos c3).symm.trans hF
    refine at_iconst (pc := 11) C dX11_pays_11 ?_
    obtain rfl := Option.some.inj hF
    exact at_iret (pc := 12) C hr hlk (show inR (-1) from ⟨by decide, by decide⟩) ok dX11_pays_12
abbrev rm_X11_paidInAll : Room := { frames := 3, cells := 0, slots := 0, locals := 71 }
def F_X11_paidInAll (N : Nat) (v1 : Int) (v2 : Int) (σ : Sto) : Option (Int) :=
  (F_X11_paidForRelief N v1 v2 σ).bind (fun q1 => (F_X11_paidForClaims N v1 v2 σ).bind (fun q2 => some (ja q1 q2)))
set_option maxHeartbeats 4000000 in
set_option maxRecDepth 100000 in
theorem c_X11_paidInAll (l : Launch) (g : Geo) (N : Nat) (v1 : Int) (v2 : Int) (σ : Sto) (res : Int) (h1 : inR v1) (h2 : inR v2) (ok : OK σ) (hF : F_X11_paidInAll N v1 v2 σ = some res) : MtI l g yX11_paidInAll cX11_paidInAll 3 (some .int) rm_X11_paidInAll [vr g 0, vi v1, vi v2] σ res σ inR := by
  intro sz
  refine Met.ofAt (own := RX11) (QQ := fun z => QI g z res σ inR) (by decide +kernel) (Nat.le_of_ble_eq_true rfl) rfl ?_
  intro p e s m args below meth c C hr hlk
  show At p l e rm_X11_paidInAll s m args below meth c 0 0 g 3 (MQ below (QI g s.heap.size res σ inR) args s 0 0 (AA g s.heap.size)) 0 [(0, vr g 0), (1, vi v1), (2, vi v2)] [] σ
  unfold F_X11_paidInAll at hF
  refine at_aload_n (pc := 0) C 0 dX11_paidInAll_0 rfl rfl ?_
  refine at_iload_n (pc := 1) C 1 dX11_paidInAll_1 rfl rfl ?_
  refine at_iload_n (pc := 2) C 2 dX11_paidInAll_2 rfl rfl ?_
  obtain ⟨q1, eq1, hF⟩ := bind_some' hF
  refine at_callV (pc := 3) (ci := 11) C (c_X11_paidForRelief l g N v1 v2 σ q1 h1 h2 ok eq1) kv_X11_paidForRelief w1066 kd0 rfl rfl rfl rfl (Nat.le_of_ble_eq_true rfl) ⟨rfl, rfl, (Nat.le_of_ble_eq_true rfl), (Nat.le_of_ble_eq_true rfl)⟩ dX11_paidInAll_3 (fun tq1 okq1 => ?_)
  refine at_aload_n (pc := 6) C 0 dX11_paidInAll_6 rfl rfl ?_
  refine at_iload_n (pc := 7) C 1 dX11_paidInAll_7 rfl rfl ?_
  refine at_iload_n (pc := 8) C 2 dX11_paidInAll_8 rfl rfl ?_
  obtain ⟨q2, eq2, hF⟩ := bind_some' hF
  refine at_callV (pc := 9) (ci := 11) C (c_X11_paidForClaims l g N v1 v2 σ q2 h1 h2 ok eq2) kv_X11_paidForClaims w1074 kd0 rfl rfl rfl rfl (Nat.le_of_ble_eq_true rfl) ⟨rfl, rfl, (Nat.le_of_ble_eq_true rfl), (Nat.le_of_ble_eq_true rfl)⟩ dX11_paidInAll_9 (fun tq2 okq2 => ?_)
  refine at_iadd (pc := 12) C dX11_paidInAll_12 ?_
  obtain rfl := Option.some.inj hF
  exact at_iret (pc := 13) C hr hlk (ja_R q1 q2) ok dX11_paidInAll_13
abbrev rm_X11_balance : Room := { frames := 6, cells := 0, slots := 0, locals := 150 }
def F_X11_balance (N : Nat) (v1 : Int) (σ : Sto) : Option (Int × Sto) :=
  asB (σ.1 0 1) (fun b1 => (F_X0_hasMember N b1 v1 σ).bind (fun q2 => if q2 = 0 then (some ((-9999999), σ)) else ((F_X11_refreshFlow N σ).bind (fun q4 => (F_X11_paidInAll N (-1) v1 q4).bind (fun q5 => (F_X11_paidInAll N v1 (-1) q4).bind (fun q6 => some ((js q5 q6), q4)))))))
set_option maxHeartbeats 4000000 in
set_option maxRecDepth 100000 in
theorem c_X11_balance (l : Launch) (g : Geo) (N : Nat) (v1 : Int) (σ : Sto) (res : Int × Sto) (h1 : inR v1) (ok : OK σ) (hF : F_X11_balance N v1 σ = some res) : MtI l g yX11_balance cX11_balance 2 (some .int) rm_X11_balance [vr g 0, vi v1] σ res.1 res.2 inR := by
  intro sz
  refine Met.ofAt (own := RX11) (QQ := fun z => QI g z res.1 res.2 inR) (by decide +kernel) (Nat.le_of_ble_eq_true rfl) rfl ?_
  intro p e s m args below meth c C hr hlk
  show At p l e rm_X11_balance s m args below meth c 0 0 g 2 (MQ below (QI g s.heap.size res.1 res.2 inR) args s 0 0 (AA g s.heap.size)) 0 [(0, vr g 0), (1, vi v1)] [] σ
  unfold F_X11_balance at hF
  refine at_aload_n (pc := 0) C 0 dX11_balance_0 rfl rfl ?_
  obtain ⟨b1, eb1, kb1, hF⟩ := asB_some hF
  refine at_getd (pc := 1) (jz := 1) (k2 := b1) C fw_11_19 kd0 rfl (Nat.le_of_ble_eq_true rfl) rfl rfl eb1 dX11_balance_1 ?_
  refine at_iload_n (pc := 4) C 1 dX11_balance_4 rfl rfl ?_
  obtain ⟨q2, eq2, hF⟩ := bind_some' hF
  refine at_callV (pc := 5) (ci := 0) C (c_X0_hasMember l g N b1 v1 σ q2 kb1 h1 ok eq2) kv_X0_hasMember w724 kb1 rfl rfl rfl rfl (Nat.le_of_ble_eq_true rfl) ⟨rfl, rfl, (Nat.le_of_ble_eq_true rfl), (Nat.le_of_ble_eq_true rfl)⟩ dX11_balance_5 (fun tq2 okq2 => ?_)
  refine at_if_ne (pc := 8) (tgt := 15) C (isB.r tq2) dX11_balance_8 rfl (fun c3 => ?_) (fun c3 => ?_)
  · have hF := (if_neg c3).symm.trans hF
    refine at_aload_n (pc := 15) C 0 dX11_balance_15 rfl rfl ?_
    obtain ⟨q4, eq4, hF⟩ := bind_some' hF
    refine at_callVv (pc := 16) (ci := 11) C (c_X11_refreshFlow l g N  σ q4  ok eq4) kv_X11_refreshFlow w945 kd0 rfl rfl rfl rfl (Nat.le_of_ble_eq_true rfl) ⟨rfl, rfl, (Nat.le_of_ble_eq_true rfl), (Nat.le_of_ble_eq_true rfl)⟩ dX11_balance_16 (fun okq4 => ?_)
    refine at_aload_n (pc := 19) C 0 dX11_balance_19 rfl rfl ?_
    refine at_iconst (pc := 20) C dX11_balance_20 ?_
    refine at_iload_n (pc := 21) C 1 dX11_balance_21 rfl rfl ?_
    obtain ⟨q5, eq5, hF⟩ := bind_some' hF
    refine at_callV (pc := 22) (ci := 11) C (c_X11_paidInAll l g N (-1) v1 q4 q5 (show inR (-1) from ⟨by decide, by decide⟩) h1 okq4 eq5) kv_X11_paidInAll w1083 kd0 rfl rfl rfl rfl (Nat.le_of_ble_eq_true rfl) ⟨rfl, rfl, (Nat.le_of_ble_eq_true rfl), (Nat.le_of_ble_eq_true rfl)⟩ dX11_balance_22 (fun tq5 okq5 => ?_)
    refine at_aload_n (pc := 25) C 0 dX11_balance_25 rfl rfl ?_
    refine at_iload_n (pc := 26) C 1 dX11_balance_26 rfl rfl ?_
    refine at_iconst (pc := 27) C dX11_balance_27 ?_
    obtain ⟨q6, eq6, hF⟩ := bind_some' hF
    refine at_callV (pc := 28) (ci := 11) C (c_X11_paidInAll l g N v1 (-1) q4 q6 h1 (show inR (-1) from ⟨by decide, by decide⟩) okq4 eq6) kv_X11_paidInAll w1083 kd0 rfl rfl rfl rfl (Nat.le_of_ble_eq_true rfl) ⟨rfl, rfl, (Nat.le_of_ble_eq_true rfl), (Nat.le_of_ble_eq_true rfl)⟩ dX11_balance_28 (fun tq6 okq6 => ?_)
    refine at_isub (pc := 31) C dX11_balance_31 ?_
    obtain rfl := Option.some.inj hF
    exact at_iret (pc := 32) C hr hlk (js_R q5 q6) okq4 dX11_balance_32
  · have hF := (if_pos c3).symm.trans hF
    refine at_ldc_w (pc := 11) (n := (-9999999)) C dX11_balance_11 w1082 ?_
    obtain rfl := Option.some.inj hF
    exact at_iret (pc := 14) C hr hlk (show inR (-9999999) from ⟨by decide, by decide⟩) ok dX11_balance_14
abbrev rm_X11_owes : Room := { frames := 6, cells := 0, slots := 0, locals := 150 }
def F_X11_owes (N : Nat) (v1 : Int) (v2 : Int) (σ : Sto) : Option (Int × Sto) :=
  (F_X11_isPair N v1 v2 σ).bind (fun q1 => if q1 = 0 then (some ((-9999999), σ)) else ((F_X11_refreshFlow N σ).bind (fun q3 => (F_X11_paidInAll N v1 v2 q3).bind (fun q4 => (F_X11_paidInAll N v2 v1 q3).bind (fun q5 => some ((js q4 q5), q3))))))
set_option maxHeartbeats 4000000 in
set_option maxRecDepth 100000 in
theorem c_X11_owes (l : Launch) (g : Geo) (N : Nat) (v1 : Int) (v2 : Int) (σ : Sto) (res : Int × Sto) (h1 : inR v1) (h2 : inR v2) (ok : OK σ) (hF : F_X11_owes N v1 v2 σ = some res) : MtI l g yX11_owes cX11_owes 3 (some .int) rm_X11_owes [vr g 0, vi v1, vi v2] σ res.1 res.2 inR := by
  intro sz
  refine Met.ofAt (own := RX11) (QQ := fun z => QI g z res.1 res.2 inR) (by decide +kernel) (Nat.le_of_ble_eq_true rfl) rfl ?_
  intro p e s m args below meth c C hr hlk
  show At p l e rm_X11_owes s m args below meth c 0 0 g 3 (MQ below (QI g s.heap.size res.1 res.2 inR) args s 0 0 (AA g s.heap.size)) 0 [(0, vr g 0), (1, vi v1), (2, vi v2)] [] σ
  unfold F_X11_owes at hF
  refine at_aload_n (pc := 0) C 0 dX11_owes_0 rfl rfl ?_
  refine at_iload_n (pc := 1) C 1 dX11_owes_1 rfl rfl ?_
  refine at_iload_n (pc := 2) C 2 dX11_owes_2 rfl rfl ?_
  obtain ⟨q1, eq1, hF⟩ := bind_some' hF
  refine at_callV (pc := 3) (ci := 11) C (c_X11_isPair l g N v1 v2 σ q1 h1 h2 ok eq1) kv_X11_isPair w716 kd0 rfl rfl rfl rfl (Nat.le_of_ble_eq_true rfl) ⟨rfl, rfl, (Nat.le_of_ble_eq_true rfl), (Nat.le_of_ble_eq_true rfl)⟩ dX11_owes_3 (fun tq1 okq1 => ?_)
  refine at_if_ne (pc := 6) (tgt := 13) C (isB.r tq1) dX11_owes_6 rfl (fun c2 => ?_) (fun c2 => ?_)
  · have hF := (if_neg c2).symm.trans hF
    refine at_aload_n (pc := 13) C 0 dX11_owes_13 rfl rfl ?_
    obtain ⟨q3, eq3, hF⟩ := bind_some' hF
    refine at_callVv (pc := 14) (ci := 11) C (c_X11_refreshFlow l g N  σ q3  ok eq3) kv_X11_refreshFlow w945 kd0 rfl rfl rfl rfl (Nat.le_of_ble_eq_true rfl) ⟨rfl, rfl, (Nat.le_of_ble_eq_true rfl), (Nat.le_of_ble_eq_true rfl)⟩ dX11_owes_14 (fun okq3 => ?_)
    refine at_aload_n (pc := 17) C 0 dX11_owes_17 rfl rfl ?_
    refine at_iload_n (pc := 18) C 1 dX11_owes_18 rfl rfl ?_
    refine at_iload_n (pc := 19) C 2 dX11_owes_19 rfl rfl ?_
    obtain ⟨q4, eq4, hF⟩ := bind_some' hF
    refine at_callV (pc := 20) (ci := 11) C (c_X11_paidInAll l g N v1 v2 q3 q4 h1 h2 okq3 eq4) kv_X11_paidInAll w1083 kd0 rfl rfl rfl rfl (Nat.le_of_ble_eq_true rfl) ⟨rfl, rfl, (Nat.le_of_ble_eq_true rfl), (Nat.le_of_ble_eq_true rfl)⟩ dX11_owes_20 (fun tq4 okq4 => ?_)
    refine at_aload_n (pc := 23) C 0 dX11_owes_23 rfl rfl ?_
    refine at_iload_n (pc := 24) C 2 dX11_owes_24 rfl rfl ?_
    refine at_iload_n (pc := 25) C 1 dX11_owes_25 rfl rfl ?_
    obtain ⟨q5, eq5, hF⟩ := bind_some' hF
    refine at_callV (pc := 26) (ci := 11) C (c_X11_paidInAll l g N v2 v1 q3 q5 h2 h1 okq3 eq5) kv_X11_paidInAll w1083 kd0 rfl rfl rfl rfl (Nat.le_of_ble_eq_true rfl) ⟨rfl, rfl, (Nat.le_of_ble_eq_true rfl), (Nat.le_of_ble_eq_true rfl)⟩ dX11_owes_26 (fun tq5 okq5 => ?_)
    refine at_isub (pc := 29) C dX11_owes_29 ?_
    obtain rfl := Option.some.inj hF
    exact at_iret (pc := 30) C hr hlk (js_R q4 q5) okq3 dX11_owes_30
  · have hF := (if_pos c2).symm.trans hF
    refine at_ldc_w (pc := 9) (n := (-9999999)) C dX11_owes_9 w1082 ?_
    obtain rfl := Option.some.inj hF
    exact at_iret (pc := 12) C hr hlk (show inR (-9999999) from ⟨by decide, by decide⟩) ok dX11_owes_12
abbrev rm_X11_settle : Room := { frames := 6, cells := 0, slots := 0, locals := 150 }
def F_X11_settle_J45 (N : Nat)   (σ : Sto) : Option (Sto) :=
  asB (σ.1 0 1) (fun b2 => (F_X9_run N (σ.1 b2 8) σ).bind (fun q3 => some q3))
def F_X11_settle_B6 (N : Nat) (nx6 : (Int × Sto) → Option (Sto))  (v1 : Int) (σ : Sto) : Option (Sto) :=
  asB (σ.1 0 1) (fun b4 => if (σ.1 b4 8) ≤ v1 then (F_X11_settle_J45 N   σ) else ((F_X11_paidInAll N (-1) v1 σ).bind (fun q6 => (F_X11_paidInAll N v1 (-1) σ).bind (fun q7 => inb v1 8 (nx6 ((ja v1 1), (upI σ 69 v1 (js q6 q7))))))))
def F_X11_settle (N : Nat)  (σ : Sto) : Option (Sto) :=
  (F_X11_refreshFlow N σ).bind (fun q1 => loopK (fun q nx6 => F_X11_settle_B6 N  nx6  q.1 q.2) N (0, q1))
set_option maxHeartbeats 4000000 in
set_option maxRecDepth 100000 in
theorem c_X11_settle (l : Launch) (g : Geo) (N : Nat)  (σ : Sto) (res : Sto)  (ok : OK σ) (hF : F_X11_settle N  σ = some res) : MtV l g yX11_settle cX11_settle 2 none rm_X11_settle [vr g 0] σ res := by
  intro sz
  refine Met.ofAt (own := RX11) (QQ := fun z => QV g z res) (by decide +kernel) (Nat.le_of_ble_eq_true rfl) rfl ?_
  intro p e s m args below meth c C hr hlk
  show At p l e rm_X11_settle s m args below meth c 0 0 g 2 (MQ below (QV g s.heap.size res) args s 0 0 (AA g s.heap.size)) 0 [(0, vr g 0)] [] σ
  unfold F_X11_settle at hF
  refine at_aload_n (pc := 0) C 0 dX11_settle_0 rfl rfl ?_
  obtain ⟨q1, eq1, hF⟩ := bind_some' hF
  refine at_callVv (pc := 1) (ci := 11) C (c_X11_refreshFlow l g N  σ q1  ok eq1) kv_X11_refreshFlow w945 kd0 rfl rfl rfl rfl (Nat.le_of_ble_eq_true rfl) ⟨rfl, rfl, (Nat.le_of_ble_eq_true rfl), (Nat.le_of_ble_eq_true rfl)⟩ dX11_settle_1 (fun okq1 => ?_)
  refine at_iconst (pc := 4) C dX11_settle_4 ?_
  refine at_istore_n (pc := 5) (lv' := [(1, vi 0), (0, vr g 0)]) C dX11_settle_5 rfl (Nat.le_of_ble_eq_true rfl) rfl ?_
  have L6 : ∀ (v1 : Int) (σ : Sto), inR v1 → OK σ → loopK (fun q nx6 => F_X11_settle_B6 N  nx6  q.1 q.2) N (v1, σ) = some res → At p l e rm_X11_settle s m args below meth c 0 0 g 2 (MQ below (QV g s.heap.size res) args s 0 0 (AA g s.heap.size)) 6 [(0, vr g 0), (1, vi v1)] [] σ := by
    intro v1 σ h1 ok hF
    refine loopK_ind (res := res) (P := fun (q : Int × Sto) => inR q.1 → OK q.2 → At p l e rm_X11_settle s m args below meth c 0 0 g 2 (MQ below (QV g s.heap.size res) args s 0 0 (AA g s.heap.size)) 6 [(0, vr g 0), (1, vi q.1)] [] q.2) ?_ N _ hF h1 ok
    intro nx6 q ih6 hF
    obtain ⟨v1, σ⟩ := q
    intro h1 ok
    have hF : F_X11_settle_B6 N  nx6  v1 σ = some res := hF
    unfold F_X11_settle_B6 at hF
    have J45 : ∀  (σ : Sto), OK σ → F_X11_settle_J45 N   σ = some res → At p l e rm_X11_settle s m args below meth c 0 0 g 2 (MQ below (QV g s.heap.size res) args s 0 0 (AA g s.heap.size)) 45 [(0, vr g 0)] [] σ := by
      intro σ ok hF
      unfold F_X11_settle_J45 at hF
      refine at_aload_n (pc := 45) C 0 dX11_settle_45 rfl rfl ?_
      refine at_getr (pc := 46) (k' := 68) C 68 fw_11_78 kd0 rfl (Nat.le_of_ble_eq_true rfl) rfl rfl dX11_settle_46 ?_
      refine at_aload_n (pc := 49) C 0 dX11_settle_49 rfl rfl ?_
      obtain ⟨b2, eb2, kb2, hF⟩ := asB_some hF
      refine at_getd (pc := 50) (jz := 1) (k2 := b2) C fw_11_19 kd0 rfl (Nat.le_of_ble_eq_true rfl) rfl rfl eb2 dX11_settle_50 ?_
      refine at_geti (pc := 53) (jz := 8) C fw_11_392 kb2 rfl (Nat.le_of_ble_eq_true rfl) rfl rfl dX11_settle_53 ?_
      obtain ⟨q3, eq3, hF⟩ := bind_some' hF
      refine at_callVv (pc := 56) (ci := 9) C (c_X9_run l g N (σ.1 b2 8) σ q3 (ok b2 8) ok eq3) kv_X9_run w1099 kd68 rfl rfl rfl rfl (Nat.le_of_ble_eq_true rfl) ⟨rfl, rfl, (Nat.le_of_ble_eq_true rfl), (Nat.le_of_ble_eq_true rfl)⟩ dX11_settle_56 (fun okq3 => ?_)
      obtain rfl := Option.some.inj hF
      exact at_vret (pc := 59) C hr hlk okq3 dX11_settle_59
    refine at_iload_n (pc := 6) C 1 dX11_settle_6 rfl rfl ?_
    refine at_aload_n (pc := 7) C 0 dX11_settle_7 rfl rfl ?_
    obtain ⟨b4, eb4, kb4, hF⟩ := asB_some hF
    refine at_getd (pc := 8) (jz := 1) (k2 := b4) C fw_11_19 kd0 rfl (Nat.le_of_ble_eq_true rfl) rfl rfl eb4 dX11_settle_8 ?_
    refine at_geti (pc := 11) (jz := 8) C fw_11_392 kb4 rfl (Nat.le_of_ble_eq_true rfl) rfl rfl dX11_settle_11 ?_
    refine at_icmp_ge (pc := 14) (tgt := 45) C h1 (ok b4 8) dX11_settle_14 rfl (fun c5 => ?_) (fun c5 => ?_)
    · have hF := (if_pos c5).symm.trans hF
      refine at_sub (lv' := [(0, vr g 0)]) [0] rfl ?_
      exact J45 σ ok hF
    · have hF := (if_neg c5).symm.trans hF
      refine at_aload_n (pc := 17) C 0 dX11_settle_17 rfl rfl ?_
      refine at_getr (pc := 18) (k' := 68) C 68 fw_11_78 kd0 rfl (Nat.le_of_ble_eq_true rfl) rfl rfl dX11_settle_18 ?_
      refine at_getr (pc := 21) (k' := 69) C 1 fw_11_395 kd68 rfl (Nat.le_of_ble_eq_true rfl) rfl rfl dX11_settle_21 ?_
      refine at_iload_n (pc := 24) C 1 dX11_settle_24 rfl rfl ?_
      refine at_aload_n (pc := 25) C 0 dX11_settle_25 rfl rfl ?_
      refine at_iconst (pc := 26) C dX11_settle_26 ?_
      refine at_iload_n (pc := 27) C 1 dX11_settle_27 rfl rfl ?_
      obtain ⟨q6, eq6, hF⟩ := bind_some' hF
      refine at_callV (pc := 28) (ci := 11) C (c_X11_paidInAll l g N (-1) v1 σ q6 (show inR (-1) from ⟨by decide, by decide⟩) h1 ok eq6) kv_X11_paidInAll w1083 kd0 rfl rfl rfl rfl (Nat.le_of_ble_eq_true rfl) ⟨rfl, rfl, (Nat.le_of_ble_eq_true rfl), (Nat.le_of_ble_eq_true rfl)⟩ dX11_settle_28 (fun tq6 okq6 => ?_)
      refine at_aload_n (pc := 31) C 0 dX11_settle_31 rfl rfl ?_
      refine at_iload_n (pc := 32) C 1 dX11_settle_32 rfl rfl ?_
      refine at_iconst (pc := 33) C dX11_settle_33 ?_
      obtain ⟨q7, eq7, hF⟩ := bind_some' hF
      refine at_callV (pc := 34) (ci := 11) C (c_X11_paidInAll l g N v1 (-1) σ q7 h1 (show inR (-1) from ⟨by decide, by decide⟩) ok eq7) kv_X11_paidInAll w1083 kd0 rfl rfl rfl rfl (Nat.le_of_ble_eq_true rfl) ⟨rfl, rfl, (Nat.le_of_ble_eq_true rfl), (Nat.le_of_ble_eq_true rfl)⟩ dX11_settle_34 (fun tq7 okq7 => ?_)
      refine at_isub (pc := 37) C dX11_settle_37 ?_
      obtain ⟨b8, hF⟩ := inb_some hF
      refine at_iastore (pc := 38) C kd69 b8 dX11_settle_38 ?_
      refine at_iinc (pc := 39) (lv' := [(1, vi (ja v1 1)), (0, vr g 0)]) C 1 dX11_settle_39 rfl (Nat.le_of_ble_eq_true rfl) rfl ?_
      refine at_goto (pc := 42) (tgt := 6) C dX11_settle_42 rfl ?_
      refine at_sub (lv' := [(0, vr g 0), (1, vi (ja v1 1))]) [1, 0] rfl ?_
      exact ih6 _ hF (ja_R v1 1) (OK_up (k := 69) (j := v1) ok (js_R q6 q7))
  refine at_sub (lv' := [(0, vr g 0), (1, vi 0)]) [1, 0] rfl ?_
  exact L6 0 q1 (isB.r (Or.inl rfl)) okq1 hF
abbrev rm_X11_settles : Room := { frames := 7, cells := 0, slots := 0, locals := 171 }
def F_X11_settles (N : Nat)  (σ : Sto) : Option (Int × Sto) :=
  (F_X11_settle N σ).bind (fun q1 => some ((q1.1 68 4), q1))
set_option maxHeartbeats 4000000 in
set_option maxRecDepth 100000 in
theorem c_X11_settles (l : Launch) (g : Geo) (N : Nat)  (σ : Sto) (res : Int × Sto)  (ok : OK σ) (hF : F_X11_settles N  σ = some res) : MtI l g yX11_settles cX11_settles 1 (some .int) rm_X11_settles [vr g 0] σ res.1 res.2 inR := by
  intro sz
  refine Met.ofAt (own := RX11) (QQ := fun z => QI g z res.1 res.2 inR) (by decide +kernel) (Nat.le_of_ble_eq_true rfl) rfl ?_
  intro p e s m args below meth c C hr hlk
  show At p l e rm_X11_settles s m args below meth c 0 0 g 1 (MQ below (QI g s.heap.size res.1 res.2 inR) args s 0 0 (AA g s.heap.size)) 0 [(0, vr g 0)] [] σ
  unfold F_X11_settles at hF
  refine at_aload_n (pc := 0) C 0 dX11_settles_0 rfl rfl ?_
  obtain ⟨q1, eq1, hF⟩ := bind_some' hF
  refine at_callVv (pc := 1) (ci := 11) C (c_X11_settle l g N  σ q1  ok eq1) kv_X11_settle w1095 kd0 rfl rfl rfl rfl (Nat.le_of_ble_eq_true rfl) ⟨rfl, rfl, (Nat.le_of_ble_eq_true rfl), (Nat.le_of_ble_eq_true rfl)⟩ dX11_settles_1 (fun okq1 => ?_)
  refine at_aload_n (pc := 4) C 0 dX11_settles_4 rfl rfl ?_
  refine at_getr (pc := 5) (k' := 68) C 68 fw_11_78 kd0 rfl (Nat.le_of_ble_eq_true rfl) rfl rfl dX11_settles_5 ?_
  refine at_geti (pc := 8) (jz := 4) C fw_11_384 kd68 rfl (Nat.le_of_ble_eq_true rfl) rfl rfl dX11_settles_8 ?_
  obtain rfl := Option.some.inj hF
  exact at_iret (pc := 11) C hr hlk (okq1 68 4) okq1 dX11_settles_11
abbrev rm_X11_settling : Room := { frames := 7, cells := 0, slots := 0, locals := 171 }
def F_X11_settling (N : Nat) (v1 : Int) (v2 : Int) (σ : Sto) : Option (Int × Sto) :=
  if v1 < 0 then (some ((-1), σ)) else (if v2 < 0 then (some ((-1), σ)) else (if v2 ≤ 2 then ((F_X11_settle N σ).bind (fun q4 => if v1 < (q4.1 68 4) then (if v2 = 0 then (inb v1 8 (some ((q4.1 70 v1), q4))) else (if v2 = 1 then (inb v1 8 (some ((q4.1 71 v1), q4))) else (inb v1 8 (some ((q4.1 72 v1), q4))))) else (some ((-2), q4)))) else (some ((-1), σ))))
set_option maxHeartbeats 4000000 in
set_option maxRecDepth 100000 in
theorem c_X11_settling (l : Launch) (g : Geo) (N : Nat) (v1 : Int) (v2 : Int) (σ : Sto) (res : Int × Sto) (h1 : inR v1) (h2 : inR v2) (ok : OK σ) (hF : F_X11_settling N v1 v2 σ = some res) : MtI l g yX11_settling cX11_settling 3 (some .int) rm_X11_settling [vr g 0, vi v1, vi v2] σ res.1 res.2 inR := by
  intro sz
  refine Met.ofAt (own := RX11) (QQ := fun z => QI g z res.1 res.2 inR) (by decide +kernel) (Nat.le_of_ble_eq_true rfl) rfl ?_
  intro p e s m args below meth c C hr hlk
  show At p l e rm_X11_settling s m args below meth c 0 0 g 3 (MQ below (QI g s.heap.size res.1 res.2 inR) args s 0 0 (AA g s.heap.size)) 0 [(0, vr g 0), (1, vi v1), (2, vi v2)] [] σ
  unfold F_X11_settling at hF
  refine at_iload_n (pc := 0) C 1 dX11_settling_0 rfl rfl ?_
  refine at_if_lt (pc := 1) (tgt := 13) C h1 dX11_settling_1 rfl (fun c1 => ?_) (fun c1 => ?_)
  · have hF := (if_pos c1).symm.trans hF
    refine at_iconst (pc := 13) C dX11_settling_13 ?_
    obtain rfl := Option.some.inj hF
    exact at_iret (pc := 14) C hr hlk (show inR (-1) from ⟨by decide, by decide⟩) ok dX11_settling_14
  · have hF := (if_neg c1).symm.trans hF
    refine at_iload_n (pc := 4) C 2 dX11_settling_4 rfl rfl ?_
    refine at_if_lt (pc := 5) (tgt := 13) C h2 dX11_settling_5 rfl (fun c2 => ?_) (fun c2 => ?_)
    · have hF := (if_pos c2).symm.trans hF
      refine at_iconst (pc := 13) C dX11_settling_13 ?_
      obtain rfl := Option.some.inj hF
      exact at_iret (pc := 14) C hr hlk (show inR (-1) from ⟨by decide, by decide⟩) ok dX11_settling_14
    · have hF := (if_neg c2).symm.trans hF
      refine at_iload_n (pc := 8) C 2 dX11_settling_8 rfl rfl ?_
      refine at_iconst (pc := 9) C dX11_settling_9 ?_
      refine at_icmp_le (pc := 10) (tgt := 15) C h2 (show inR 2 from ⟨by decide, by decide⟩) dX11_settling_10 rfl (fun c3 => ?_) (fun c3 => ?_)
      · have hF := (if_pos c3).symm.trans hF
        refine at_aload_n (pc := 15) C 0 dX11_settling_15 rfl rfl ?_
        obtain ⟨q4, eq4, hF⟩ := bind_some' hF
        refine at_callVv (pc := 16) (ci := 11) C (c_X11_settle l g N  σ q4  ok eq4) kv_X11_settle w1095 kd0 rfl rfl rfl rfl (Nat.le_of_ble_eq_true rfl) ⟨rfl, rfl, (Nat.le_of_ble_eq_true rfl), (Nat.le_of_ble_eq_true rfl)⟩ dX11_settling_16 (fun okq4 => ?_)
        refine at_iload_n (pc := 19) C 1 dX11_settling_19 rfl rfl ?_
        refine at_aload_n (pc := 20) C 0 dX11_settling_20 rfl rfl ?_
        refine at_getr (pc := 21) (k' := 68) C 68 fw_11_78 kd0 rfl (Nat.le_of_ble_eq_true rfl) rfl rfl dX11_settling_21 ?_
        refine at_geti (pc := 24) (jz := 4) C fw_11_384 kd68 rfl (Nat.le_of_ble_eq_true rfl) rfl rfl dX11_settling_24 ?_
        refine at_icmp_lt (pc := 27) (tgt := 33) C h1 (okq4 68 4) dX11_settling_27 rfl (fun c5 => ?_) (fun c5 => ?_)
        · have hF := (if_pos c5).symm.trans hF
          refine at_iload_n (pc := 33) C 2 dX11_settling_33 rfl rfl ?_
          refine at_if_ne (pc := 34) (tgt := 47) C h2 dX11_settling_34 rfl (fun c6 => ?_) (fun c6 => ?_)
          · have hF := (if_neg c6).symm.trans hF
            refine at_iload_n (pc := 47) C 2 dX11_settling_47 rfl rfl ?_
            refine at_iconst (pc := 48) C dX11_settling_48 ?_
            refine at_icmp_ne (pc := 49) (tgt := 64) C h2 (isB.r (Or.inr rfl)) dX11_settling_49 rfl (fun c7 => ?_) (fun c7 => ?_)
            · have hF := (if_neg c7).symm.trans hF
              refine at_aload_n (pc := 64) C 0 dX11_settling_64 rfl rfl ?_
              refine at_getr (pc := 65) (k' := 68) C 68 fw_11_78 kd0 rfl (Nat.le_of_ble_eq_true rfl) rfl rfl dX11_settling_65 ?_
              refine at_getr (pc := 68) (k' := 72) C 4 fw_11_391 kd68 rfl (Nat.le_of_ble_eq_true rfl) rfl rfl dX11_settling_68 ?_
              refine at_iload_n (pc := 71) C 1 dX11_settling_71 rfl rfl ?_
              obtain ⟨b8, hF⟩ := inb_some hF
              refine at_iaload (pc := 72) C kd72 b8 dX11_settling_72 ?_
              obtain rfl := Option.some.inj hF
              exact at_iret (pc := 73) C hr hlk (okq4 72 v1) okq4 dX11_settling_73
            · have hF := (if_pos c7).symm.trans hF
              refine at_aload_n (pc := 52) C 0 dX11_settling_52 rfl rfl ?_
              refine at_getr (pc := 53) (k' := 68) C 68 fw_11_78 kd0 rfl (Nat.le_of_ble_eq_true rfl) rfl rfl dX11_settling_53 ?_
              refine at_getr (pc := 56) (k' := 71) C 3 fw_11_388 kd68 rfl (Nat.le_of_ble_eq_true rfl) rfl rfl dX11_settling_56 ?_
              refine at_iload_n (pc := 59) C 1 dX11_settling_59 rfl rfl ?_
              obtain ⟨b9, hF⟩ := inb_some hF
              refine at_iaload (pc := 60) C kd71 b9 dX11_settling_60 ?_
              refine at_goto (pc := 61) (tgt := 73) C dX11_settling_61 rfl ?_
              obtain rfl := Option.some.inj hF
              exact at_iret (pc := 73) C hr hlk (okq4 71 v1) okq4 dX11_settling_73
          · have hF := (if_pos c6).symm.trans hF
            refine at_aload_n (pc := 37) C 0 dX11_settling_37 rfl rfl ?_
            refine at_getr (pc := 38) (k' := 68) C 68 fw_11_78 kd0 rfl (Nat.le_of_ble_eq_true rfl) rfl rfl dX11_settling_38 ?_
            refine at_getr (pc := 41) (k' := 70) C 2 fw_11_385 kd68 rfl (Nat.le_of_ble_eq_true rfl) rfl rfl dX11_settling_41 ?_
            refine at_iload_n (pc := 44) C 1 dX11_settling_44 rfl rfl ?_
            obtain ⟨b10, hF⟩ := inb_some hF
            refine at_iaload (pc := 45) C kd70 b10 dX11_settling_45 ?_
            obtain rfl := Option.some.inj hF
            exact at_iret (pc := 46) C hr hlk (okq4 70 v1) okq4 dX11_settling_46
        · have hF := (if_neg c5).symm.trans hF
          refine at_bipush (pc := 30) C dX11_settling_30 (by decide) ?_
          obtain rfl := Option.some.inj hF
          exact at_iret (pc := 32) C hr hlk (show inR (-2) from ⟨by decide, by decide⟩) okq4 dX11_settling_32
      · have hF := (if_neg c3).symm.trans hF
        refine at_iconst (pc := 13) C dX11_settling_13 ?_
        obtain rfl := Option.some.inj hF
        exact at_iret (pc := 14) C hr hlk (show inR (-1) from ⟨by decide, by decide⟩) ok dX11_settling_14
abbrev rm_X11_tax : Room := { frames := 6, cells := 0, slots := 0, locals := 150 }
def F_X11_tax_J82 (N : Nat) (nx21 : (Int × Int) → Option (Int × Sto)) (v1 : Int) (v2 : Int) (v3 : Int) (σ : Sto) : Option (Int × Sto) :=
  nx21 (v2, (ja v3 1))
def F_X11_tax_B21 (N : Nat) (nx21 : (Int × Int) → Option (Int × Sto)) (v1 : Int) (v2 : Int) (v3 : Int) (σ : Sto) : Option (Int × Sto) :=
  asB (σ.1 0 1) (fun b5 => if (σ.1 b5 9) ≤ v3 then (some (v2, σ)) else (asB (σ.1 0 1) (fun b7 => inb v3 12 (if (σ.1 (b7 + 4) v3) = v1 then (asB (σ.1 0 1) (fun b10 => if (σ.1 (b10 + 7) v3) ≤ 0 then (F_X11_tax_J82 N nx21 v1 v2 v3 σ) else (asB (σ.1 0 1) (fun b12 => inb v1 8 (F_X11_tax_J82 N nx21 v1 (ja v2 (jdiv (jm (σ.1 60 v3) (σ.1 (b12 + 3) v1)) 100)) v3 σ))))) else (F_X11_tax_J82 N nx21 v1 v2 v3 σ)))))
def F_X11_tax (N : Nat) (v1 : Int) (σ : Sto) : Option (Int × Sto) :=
  asB (σ.1 0 1) (fun b1 => (F_X0_hasMember N b1 v1 σ).bind (fun q2 => if q2 = 0 then (some ((-1), σ)) else ((F_X11_refreshFlow N σ).bind (fun q4 => loopK (fun q nx21 => F_X11_tax_B21 N  nx21 v1 q.1 q.2 q4) N (0, 0)))))
set_option maxHeartbeats 4000000 in
set_option maxRecDepth 100000 in
theorem c_X11_tax (l : Launch) (g : Geo) (N : Nat) (v1 : Int) (σ : Sto) (res : Int × Sto) (h1 : inR v1) (ok : OK σ) (hF : F_X11_tax N v1 σ = some res) : MtI l g yX11_tax cX11_tax 4 (some .int) rm_X11_tax [vr g 0, vi v1] σ res.1 res.2 inR := by
  intro sz
  refine Met.ofAt (own := RX11) (QQ := fun z => QI g z res.1 res.2 inR) (by decide +kernel) (Nat.le_of_ble_eq_true rfl) rfl ?_
  intro p e s m args below meth c C hr hlk
  show At p l e rm_X11_tax s m args below meth c 0 0 g 4 (MQ below (QI g s.heap.size res.1 res.2 inR) args s 0 0 (AA g s.heap.size)) 0 [(0, vr g 0), (1, vi v1)] [] σ
  unfold F_X11_tax at hF
  refine at_aload_n (pc := 0) C 0 dX11_tax_0 rfl rfl ?_
  obtain ⟨b1, eb1, kb1, hF⟩ := asB_some hF
  refine at_getd (pc := 1) (jz := 1) (k2 := b1) C fw_11_19 kd0 rfl (Nat.le_of_ble_eq_true rfl) rfl rfl eb1 dX11_tax_1 ?_
  refine at_iload_n (pc := 4) C 1 dX11_tax_4 rfl rfl ?_
  obtain ⟨q2, eq2, hF⟩ := bind_some' hF
  refine at_callV (pc := 5) (ci := 0) C (c_X0_hasMember l g N b1 v1 σ q2 kb1 h1 ok eq2) kv_X0_hasMember w724 kb1 rfl rfl rfl rfl (Nat.le_of_ble_eq_true rfl) ⟨rfl, rfl, (Nat.le_of_ble_eq_true rfl), (Nat.le_of_ble_eq_true rfl)⟩ dX11_tax_5 (fun tq2 okq2 => ?_)
  refine at_if_ne (pc := 8) (tgt := 13) C (isB.r tq2) dX11_tax_8 rfl (fun c3 => ?_) (fun c3 => ?_)
  · have hF := (if_neg c3).symm.trans hF
    refine at_aload_n (pc := 13) C 0 dX11_tax_13 rfl rfl ?_
    obtain ⟨q4, eq4, hF⟩ := bind_some' hF
    refine at_callVv (pc := 14) (ci := 11) C (c_X11_refreshFlow l g N  σ q4  ok eq4) kv_X11_refreshFlow w945 kd0 rfl rfl rfl rfl (Nat.le_of_ble_eq_true rfl) ⟨rfl, rfl, (Nat.le_of_ble_eq_true rfl), (Nat.le_of_ble_eq_true rfl)⟩ dX11_tax_14 (fun okq4 => ?_)
    refine at_iconst (pc := 17) C dX11_tax_17 ?_
    refine at_istore_n (pc := 18) (lv' := [(2, vi 0), (0, vr g 0), (1, vi v1)]) C dX11_tax_18 rfl (Nat.le_of_ble_eq_true rfl) rfl ?_
    refine at_iconst (pc := 19) C dX11_tax_19 ?_
    refine at_istore_n (pc := 20) (lv' := [(3, vi 0), (2, vi 0), (0, vr g 0), (1, vi v1)]) C dX11_tax_20 rfl (Nat.le_of_ble_eq_true rfl) rfl ?_
    have L21 : ∀ (v1 : Int) (v2 : Int) (v3 : Int) (σ : Sto), inR v1 → inR v2 → inR v3 → OK σ → loopK (fun q nx21 => F_X11_tax_B21 N  nx21 v1 q.1 q.2 σ) N (v2, v3) = some res → At p l e rm_X11_tax s m args below meth c 0 0 g 4 (MQ below (QI g s.heap.size res.1 res.2 inR) args s 0 0 (AA g s.heap.size)) 21 [(0, vr g 0), (1, vi v1), (2, vi v2), (3, vi v3)] [] σ := by
      intro v1 v2 v3 σ h1 h2 h3 ok hF
      refine loopK_ind (res := res) (P := fun (q : Int × Int) => inR q.1 → inR q.2 → At p l e rm_X11_tax s m args below meth c 0 0 g 4 (MQ below (QI g s.heap.size res.1 res.2 inR) args s 0 0 (AA g s.heap.size)) 21 [(0, vr g 0), (1, vi v1), (2, vi q.1), (3, vi q.2)] [] σ) ?_ N _ hF h2 h3
      intro nx21 q ih21 hF
      obtain ⟨v2, v3⟩ := q
      intro h2 h3
      have hF : F_X11_tax_B21 N  nx21 v1 v2 v3 σ = some res := hF
      unfold F_X11_tax_B21 at hF
      refine at_iload_n (pc := 21) C 3 dX11_tax_21 rfl rfl ?_
      refine at_aload_n (pc := 22) C 0 dX11_tax_22 rfl rfl ?_
      obtain ⟨b5, eb5, kb5, hF⟩ := asB_some hF
      refine at_getd (pc := 23) (jz := 1) (k2 := b5) C fw_11_19 kd0 rfl (Nat.le_of_ble_eq_true rfl) rfl rfl eb5 dX11_tax_23 ?_
      refine at_geti (pc := 26) (jz := 9) C fw_11_324 kb5 rfl (Nat.le_of_ble_eq_true rfl) rfl rfl dX11_tax_26 ?_
      refine at_icmp_ge (pc := 29) (tgt := 88) C h3 (ok b5 9) dX11_tax_29 rfl (fun c6 => ?_) (fun c6 => ?_)
      · have hF := (if_pos c6).symm.trans hF
        refine at_iload_n (pc := 88) C 2 dX11_tax_88 rfl rfl ?_
        obtain rfl := Option.some.inj hF
        exact at_iret (pc := 89) C hr hlk h2 ok dX11_tax_89
      · have hF := (if_neg c6).symm.trans hF
        have J82 : ∀ (v2 : Int) (v3 : Int), inR v2 → inR v3 → F_X11_tax_J82 N nx21 v1 v2 v3 σ = some res → At p l e rm_X11_tax s m args below meth c 0 0 g 4 (MQ below (QI g s.heap.size res.1 res.2 inR) args s 0 0 (AA g s.heap.size)) 82 [(0, vr g 0), (1, vi v1), (2, vi v2), (3, vi v3)] [] σ := by
          intro v2 v3 h2 h3 hF
          unfold F_X11_tax_J82 at hF
          refine at_iinc (pc := 82) (lv' := [(3, vi (ja v3 1)), (0, vr g 0), (1, vi v1), (2, vi v2)]) C 3 dX11_tax_82 rfl (Nat.le_of_ble_eq_true rfl) rfl ?_
          refine at_goto (pc := 85) (tgt := 21) C dX11_tax_85 rfl ?_
          refine at_sub (lv' := [(0, vr g 0), (1, vi v1), (2, vi v2), (3, vi (ja v3 1))]) [1, 2, 3, 0] rfl ?_
          exact ih21 _ hF h2 (ja_R v3 1)
        refine at_aload_n (pc := 32) C 0 dX11_tax_32 rfl rfl ?_
        obtain ⟨b7, eb7, kb7, hF⟩ := asB_some hF
        refine at_getd (pc := 33) (jz := 1) (k2 := b7) C fw_11_19 kd0 rfl (Nat.le_of_ble_eq_true rfl) rfl rfl eb7 dX11_tax_33 ?_
        refine at_getr (pc := 36) C 4 fw_11_169 kb7 rfl (Nat.le_of_ble_eq_true rfl) rfl rfl dX11_tax_36 ?_
        refine at_iload_n (pc := 39) C 3 dX11_tax_39 rfl rfl ?_
        obtain ⟨b8, hF⟩ := inb_some hF
        refine at_iaload (pc := 40) C (kf0_3 kb7) b8 dX11_tax_40 ?_
        refine at_iload_n (pc := 41) C 1 dX11_tax_41 rfl rfl ?_
        refine at_icmp_ne (pc := 42) (tgt := 82) C (ok (b7 + 4) v3) h1 dX11_tax_42 rfl (fun c9 => ?_) (fun c9 => ?_)
        · have hF := (if_neg c9).symm.trans hF
          exact J82 v2 v3 h2 h3 hF
        · have hF := (if_pos c9).symm.trans hF
          refine at_aload_n (pc := 45) C 0 dX11_tax_45 rfl rfl ?_
          obtain ⟨b10, eb10, kb10, hF⟩ := asB_some hF
          refine at_getd (pc := 46) (jz := 1) (k2 := b10) C fw_11_19 kd0 rfl (Nat.le_of_ble_eq_true rfl) rfl rfl eb10 dX11_tax_46 ?_
          refine at_getr (pc := 49) C 7 fw_11_178 kb10 rfl (Nat.le_of_ble_eq_true rfl) rfl rfl dX11_tax_49 ?_
          refine at_iload_n (pc := 52) C 3 dX11_tax_52 rfl rfl ?_
          refine at_iaload (pc := 53) C (kf0_6 kb10) b8 dX11_tax_53 ?_
          refine at_if_le (pc := 54) (tgt := 82) C (ok (b10 + 7) v3) dX11_tax_54 rfl (fun c11 => ?_) (fun c11 => ?_)
          · have hF := (if_pos c11).symm.trans hF
            exact J82 v2 v3 h2 h3 hF
          · have hF := (if_neg c11).symm.trans hF
            refine at_iload_n (pc := 57) C 2 dX11_tax_57 rfl rfl ?_
            refine at_aload_n (pc := 58) C 0 dX11_tax_58 rfl rfl ?_
            refine at_getr (pc := 59) (k' := 58) C 58 fw_11_71 kd0 rfl (Nat.le_of_ble_eq_true rfl) rfl rfl dX11_tax_59 ?_
            refine at_getr (pc := 62) (k' := 60) C 2 fw_11_352 kd58 rfl (Nat.le_of_ble_eq_true rfl) rfl rfl dX11_tax_62 ?_
            refine at_iload_n (pc := 65) C 3 dX11_tax_65 rfl rfl ?_
            refine at_iaload (pc := 66) C kd60 b8 dX11_tax_66 ?_
            refine at_aload_n (pc := 67) C 0 dX11_tax_67 rfl rfl ?_
            obtain ⟨b12, eb12, kb12, hF⟩ := asB_some hF
            refine at_getd (pc := 68) (jz := 1) (k2 := b12) C fw_11_19 kd0 rfl (Nat.le_of_ble_eq_true rfl) rfl rfl eb12 dX11_tax_68 ?_
            refine at_getr (pc := 71) C 3 fw_11_154 kb12 rfl (Nat.le_of_ble_eq_true rfl) rfl rfl dX11_tax_71 ?_
            refine at_iload_n (pc := 74) C 1 dX11_tax_74 rfl rfl ?_
            obtain ⟨b13, hF⟩ := inb_some hF
            refine at_iaload (pc := 75) C (kf0_2 kb12) b13 dX11_tax_75 ?_
            refine at_imul (pc := 76) C dX11_tax_76 ?_
            refine at_bipush (pc := 77) C dX11_tax_77 (by decide) ?_
            refine at_idiv (pc := 79) C dX11_tax_79 (show inR 100 from ⟨by decide, by decide⟩) (by decide) ?_
            refine at_iadd (pc := 80) C dX11_tax_80 ?_
            refine at_istore_n (pc := 81) (lv' := [(2, vi (ja v2 (jdiv (jm (σ.1 60 v3) (σ.1 (b12 + 3) v1)) 100))), (0, vr g 0), (1, vi v1), (3, vi v3)]) C dX11_tax_81 rfl (Nat.le_of_ble_eq_true rfl) rfl ?_
            refine at_sub (lv' := [(0, vr g 0), (1, vi v1), (2, vi (ja v2 (jdiv (jm (σ.1 60 v3) (σ.1 (b12 + 3) v1)) 100))), (3, vi v3)]) [1, 2, 0, 3] rfl ?_
            exact J82 (ja v2 (jdiv (jm (σ.1 60 v3) (σ.1 (b12 + 3) v1)) 100)) v3 (ja_R v2 (jdiv (jm (σ.1 60 v3) (σ.1 (b12 + 3) v1)) 100)) h3 hF
    refine at_sub (lv' := [(0, vr g 0), (1, vi v1), (2, vi 0), (3, vi 0)]) [2, 3, 1, 0] rfl ?_
    exact L21 v1 0 0 q4 h1 (isB.r (Or.inl rfl)) (isB.r (Or.inl rfl)) okq4 hF
  · have hF := (if_pos c3).symm.trans hF
    refine at_iconst (pc := 11) C dX11_tax_11 ?_
    obtain rfl := Option.some.inj hF
    exact at_iret (pc := 12) C hr hlk (show inR (-1) from ⟨by decide, by decide⟩) ok dX11_tax_12
abbrev rm_X11_without : Room := { frames := 5, cells := 0, slots := 0, locals := 130 }
def F_X11_without (N : Nat) (v1 : Int) (σ : Sto) : Option (Int × Sto) :=
  asB (σ.1 0 1) (fun b1 => (F_X0_hasMember N b1 v1 σ).bind (fun q2 => if q2 = 0 then (some ((-1), σ)) else ((F_X11_refreshNet N σ).bind (fun q4 => asB (q4.1 0 1) (fun b5 => asB (q4.1 0 1) (fun b6 => (F_X0_periodsOf N b6 v1 q4).bind (fun q7 => (F_X1_load N 83 b5 55 29 q7 q4).bind (fun q8 => (F_X1_run N 83 q8).bind (fun q9 => some ((q9.1 83 13), q9))))))))))
set_option maxHeartbeats 4000000 in
set_option maxRecDepth 100000 in
theorem c_X11_without (l : Launch) (g : Geo) (N : Nat) (v1 : Int) (σ : Sto) (res : Int × Sto) (h1 : inR v1) (ok : OK σ) (hF : F_X11_without N v1 σ = some res) : MtI l g yX11_without cX11_without 2 (some .int) rm_X11_without [vr g 0, vi v1] σ res.1 res.2 inR := by
  intro sz
  refine Met.ofAt (own := RX11) (QQ := fun z => QI g z res.1 res.2 inR) (by decide +kernel) (Nat.le_of_ble_eq_true rfl) rfl ?_
  intro p e s m args below meth c C hr hlk
  show At p l e rm_X11_without s m args below meth c 0 0 g 2 (MQ below (QI g s.heap.size res.1 res.2 inR) args s 0 0 (AA g s.heap.size)) 0 [(0, vr g 0), (1, vi v1)] [] σ
  unfold F_X11_without at hF
  refine at_aload_n (pc := 0) C 0 dX11_without_0 rfl rfl ?_
  obtain ⟨b1, eb1, kb1, hF⟩ := asB_some hF
  refine at_getd (pc := 1) (jz := 1) (k2 := b1) C fw_11_19 kd0 rfl (Nat.le_of_ble_eq_true rfl) rfl rfl eb1 dX11_without_1 ?_
  refine at_iload_n (pc := 4) C 1 dX11_without_4 rfl rfl ?_
  obtain ⟨q2, eq2, hF⟩ := bind_some' hF
  refine at_callV (pc := 5) (ci := 0) C (c_X0_hasMember l g N b1 v1 σ q2 kb1 h1 ok eq2) kv_X0_hasMember w724 kb1 rfl rfl rfl rfl (Nat.le_of_ble_eq_true rfl) ⟨rfl, rfl, (Nat.le_of_ble_eq_true rfl), (Nat.le_of_ble_eq_true rfl)⟩ dX11_without_5 (fun tq2 okq2 => ?_)
  refine at_if_ne (pc := 8) (tgt := 13) C (isB.r tq2) dX11_without_8 rfl (fun c3 => ?_) (fun c3 => ?_)
  · have hF := (if_neg c3).symm.trans hF
    refine at_aload_n (pc := 13) C 0 dX11_without_13 rfl rfl ?_
    obtain ⟨q4, eq4, hF⟩ := bind_some' hF
    refine at_callVv (pc := 14) (ci := 11) C (c_X11_refreshNet l g N  σ q4  ok eq4) kv_X11_refreshNet w791 kd0 rfl rfl rfl rfl (Nat.le_of_ble_eq_true rfl) ⟨rfl, rfl, (Nat.le_of_ble_eq_true rfl), (Nat.le_of_ble_eq_true rfl)⟩ dX11_without_14 (fun okq4 => ?_)
    refine at_aload_n (pc := 17) C 0 dX11_without_17 rfl rfl ?_
    refine at_getr (pc := 18) (k' := 83) C 83 fw_11_91 kd0 rfl (Nat.le_of_ble_eq_true rfl) rfl rfl dX11_without_18 ?_
    refine at_aload_n (pc := 21) C 0 dX11_without_21 rfl rfl ?_
    obtain ⟨b5, eb5, kb5, hF⟩ := asB_some hF
    refine at_getd (pc := 22) (jz := 1) (k2 := b5) C fw_11_19 kd0 rfl (Nat.le_of_ble_eq_true rfl) rfl rfl eb5 dX11_without_22 ?_
    refine at_aload_n (pc := 25) C 0 dX11_without_25 rfl rfl ?_
    refine at_getr (pc := 26) (k' := 55) C 55 fw_11_64 kd0 rfl (Nat.le_of_ble_eq_true rfl) rfl rfl dX11_without_26 ?_
    refine at_aload_n (pc := 29) C 0 dX11_without_29 rfl rfl ?_
    refine at_getr (pc := 30) (k' := 29) C 29 fw_11_29 kd0 rfl (Nat.le_of_ble_eq_true rfl) rfl rfl dX11_without_30 ?_
    refine at_aload_n (pc := 33) C 0 dX11_without_33 rfl rfl ?_
    obtain ⟨b6, eb6, kb6, hF⟩ := asB_some hF
    refine at_getd (pc := 34) (jz := 1) (k2 := b6) C fw_11_19 kd0 rfl (Nat.le_of_ble_eq_true rfl) rfl rfl eb6 dX11_without_34 ?_
    refine at_iload_n (pc := 37) C 1 dX11_without_37 rfl rfl ?_
    obtain ⟨q7, eq7, hF⟩ := bind_some' hF
    refine at_callV (pc := 38) (ci := 0) C (c_X0_periodsOf l g N b6 v1 q4 q7 kb6 h1 okq4 eq7) kv_X0_periodsOf w1120 kb6 rfl rfl rfl rfl (Nat.le_of_ble_eq_true rfl) ⟨rfl, rfl, (Nat.le_of_ble_eq_true rfl), (Nat.le_of_ble_eq_true rfl)⟩ dX11_without_38 (fun tq7 okq7 => ?_)
    obtain ⟨q8, eq8, hF⟩ := bind_some' hF
    refine at_callVv (pc := 41) (ci := 1) C (c_X1_load l g N 83 b5 55 29 q7 q4 q8 kd83 kb5 kd55 kd29 tq7 okq4 eq8) kv_X1_load w949 kd83 rfl rfl rfl rfl (Nat.le_of_ble_eq_true rfl) ⟨rfl, rfl, (Nat.le_of_ble_eq_true rfl), (Nat.le_of_ble_eq_true rfl)⟩ dX11_without_41 (fun okq8 => ?_)
    refine at_aload_n (pc := 44) C 0 dX11_without_44 rfl rfl ?_
    refine at_getr (pc := 45) (k' := 83) C 83 fw_11_91 kd0 rfl (Nat.le_of_ble_eq_true rfl) rfl rfl dX11_without_45 ?_
    obtain ⟨q9, eq9, hF⟩ := bind_some' hF
    refine at_callVv (pc := 48) (ci := 1) C (c_X1_run l g N 83 q8 q9 kd83 okq8 eq9) kv_X1_run w959 kd83 rfl rfl rfl rfl (Nat.le_of_ble_eq_true rfl) ⟨rfl, rfl, (Nat.le_of_ble_eq_true rfl), (Nat.le_of_ble_eq_true rfl)⟩ dX11_without_48 (fun okq9 => ?_)
    refine at_aload_n (pc := 51) C 0 dX11_without_51 rfl rfl ?_
    refine at_getr (pc := 52) (k' := 83) C 83 fw_11_91 kd0 rfl (Nat.le_of_ble_eq_true rfl) rfl rfl dX11_without_52 ?_
    refine at_geti (pc := 55) (jz := 13) C fw_11_336 kd83 rfl (Nat.le_of_ble_eq_true rfl) rfl rfl dX11_without_55 ?_
    obtain rfl := Option.some.inj hF
    exact at_iret (pc := 58) C hr hlk (okq9 83 13) okq9 dX11_without_58
  · have hF := (if_pos c3).symm.trans hF
    refine at_iconst (pc := 11) C dX11_without_11 ?_
    obtain rfl := Option.some.inj hF
    exact at_iret (pc := 12) C hr hlk (show inR (-1) from ⟨by decide, by decide⟩) ok dX11_without_12
abbrev rm_X11_gainByRoom : Room := { frames := 6, cells := 0, slots := 0, locals := 150 }
def F_X11_gainByRoom (N : Nat) (v1 : Int) (v2 : Int) (v3 : Int) (σ : Sto) : Option (Int × Sto) :=
  (F_X11_refreshFlow N σ).bind (fun q1 => asB (q1.1 0 1) (fun b2 => (F_X1_load N 83 b2 55 29 0 q1).bind (fun q3 => inb (ja (jm v1 12) v2) 144 ((F_X1_run N 83 (upI q3 86 (ja (jm v1 12) v2) (jmax 0 (ja (q3.1 86 (ja (jm v1 12) v2)) v3)))).bind (fun q5 => some ((js (q5.1 83 13) (q5.1 58 13)), q5))))))
set_option maxHeartbeats 4000000 in
set_option maxRecDepth 100000 in
theorem c_X11_gainByRoom (l : Launch) (g : Geo) (N : Nat) (v1 : Int) (v2 : Int) (v3 : Int) (σ : Sto) (res : Int × Sto) (h1 : inR v1) (h2 : inR v2) (h3 : inR v3) (ok : OK σ) (hF : F_X11_gainByRoom N v1 v2 v3 σ = some res) : MtI l g yX11_gainByRoom cX11_gainByRoom 5 (some .int) rm_X11_gainByRoom [vr g 0, vi v1, vi v2, vi v3] σ res.1 res.2 inR := by
  intro sz
  refine Met.ofAt (own := RX11) (QQ := fun z => QI g z res.1 res.2 inR) (by decide +kernel) (Nat.le_of_ble_eq_true rfl) rfl ?_
  intro p e s m args below meth c C hr hlk
  show At p l e rm_X11_gainByRoom s m args below meth c 0 0 g 5 (MQ below (QI g s.heap.size res.1 res.2 inR) args s 0 0 (AA g s.heap.size)) 0 [(0, vr g 0), (1, vi v1), (2, vi v2), (3, vi v3)] [] σ
  unfold F_X11_gainByRoom at hF
  refine at_aload_n (pc := 0) C 0 dX11_gainByRoom_0 rfl rfl ?_
  obtain ⟨q1, eq1, hF⟩ := bind_some' hF
  refine at_callVv (pc := 1) (ci := 11) C (c_X11_refreshFlow l g N  σ q1  ok eq1) kv_X11_refreshFlow w945 kd0 rfl rfl rfl rfl (Nat.le_of_ble_eq_true rfl) ⟨rfl, rfl, (Nat.le_of_ble_eq_true rfl), (Nat.le_of_ble_eq_true rfl)⟩ dX11_gainByRoom_1 (fun okq1 => ?_)
  refine at_aload_n (pc := 4) C 0 dX11_gainByRoom_4 rfl rfl ?_
  refine at_getr (pc := 5) (k' := 83) C 83 fw_11_91 kd0 rfl (Nat.le_of_ble_eq_true rfl) rfl rfl dX11_gainByRoom_5 ?_
  refine at_aload_n (pc := 8) C 0 dX11_gainByRoom_8 rfl rfl ?_
  obtain ⟨b2, eb2, kb2, hF⟩ := asB_some hF
  refine at_getd (pc := 9) (jz := 1) (k2 := b2) C fw_11_19 kd0 rfl (Nat.le_of_ble_eq_true rfl) rfl rfl eb2 dX11_gainByRoom_9 ?_
  refine at_aload_n (pc := 12) C 0 dX11_gainByRoom_12 rfl rfl ?_
  refine at_getr (pc := 13) (k' := 55) C 55 fw_11_64 kd0 rfl (Nat.le_of_ble_eq_true rfl) rfl rfl dX11_gainByRoom_13 ?_
  refine at_aload_n (pc := 16) C 0 dX11_gainByRoom_16 rfl rfl ?_
  refine at_getr (pc := 17) (k' := 29) C 29 fw_11_29 kd0 rfl (Nat.le_of_ble_eq_true rfl) rfl rfl dX11_gainByRoom_17 ?_
  refine at_iconst (pc := 20) C dX11_gainByRoom_20 ?_
  obtain ⟨q3, eq3, hF⟩ := bind_some' hF
  refine at_callVv (pc := 21) (ci := 1) C (c_X1_load l g N 83 b2 55 29 0 q1 q3 kd83 kb2 kd55 kd29 (isB.r (Or.inl rfl)) okq1 eq3) kv_X1_load w949 kd83 rfl rfl rfl rfl (Nat.le_of_ble_eq_true rfl) ⟨rfl, rfl, (Nat.le_of_ble_eq_true rfl), (Nat.le_of_ble_eq_true rfl)⟩ dX11_gainByRoom_21 (fun okq3 => ?_)
  refine at_iload_n (pc := 24) C 1 dX11_gainByRoom_24 rfl rfl ?_
  refine at_bipush (pc := 25) C dX11_gainByRoom_25 (by decide) ?_
  refine at_imul (pc := 27) C dX11_gainByRoom_27 ?_
  refine at_iload_n (pc := 28) C 2 dX11_gainByRoom_28 rfl rfl ?_
  refine at_iadd (pc := 29) C dX11_gainByRoom_29 ?_
  refine at_istore (pc := 30) (lv' := [(4, vi (ja (jm v1 12) v2)), (0, vr g 0), (1, vi v1), (2, vi v2), (3, vi v3)]) C dX11_gainByRoom_30 (Nat.le_of_ble_eq_true rfl) rfl ?_
  refine at_aload_n (pc := 32) C 1 dX11_gainByRoom_32 rfl rfl ?_
  refine at_getr (pc := 33) (k' := 83) C 83 fw_11_91 kd0 rfl (Nat.le_of_ble_eq_true rfl) rfl rfl dX11_gainByRoom_33 ?_
  refine at_getr (pc := 36) (k' := 86) C 3 fw_11_413 kd83 rfl (Nat.le_of_ble_eq_true rfl) rfl rfl dX11_gainByRoom_36 ?_
  refine at_iload (pc := 39) C 0 dX11_gainByRoom_39 rfl ?_
  refine at_iconst (pc := 41) C dX11_gainByRoom_41 ?_
  refine at_aload_n (pc := 42) C 1 dX11_gainByRoom_42 rfl rfl ?_
  refine at_getr (pc := 43) (k' := 83) C 83 fw_11_91 kd0 rfl (Nat.le_of_ble_eq_true rfl) rfl rfl dX11_gainByRoom_43 ?_
  refine at_getr (pc := 46) (k' := 86) C 3 fw_11_413 kd83 rfl (Nat.le_of_ble_eq_true rfl) rfl rfl dX11_gainByRoom_46 ?_
  refine at_iload (pc := 49) C 0 dX11_gainByRoom_49 rfl ?_
  obtain ⟨b4, hF⟩ := inb_some hF
  refine at_iaload (pc := 51) C kd86 b4 dX11_gainByRoom_51 ?_
  refine at_iload_n (pc := 52) C 4 dX11_gainByRoom_52 rfl rfl ?_
  refine at_iadd (pc := 53) C dX11_gainByRoom_53 ?_
  refine at_mmax (pc := 54) C km_max w889 (isB.r (Or.inl rfl)) (ja_R (q3.1 86 (ja (jm v1 12) v2)) v3) ⟨(Nat.le_of_ble_eq_true rfl), (Nat.le_of_ble_eq_true rfl)⟩ dX11_gainByRoom_54 ?_
  refine at_iastore (pc := 57) C kd86 b4 dX11_gainByRoom_57 ?_
  refine at_aload_n (pc := 58) C 1 dX11_gainByRoom_58 rfl rfl ?_
  refine at_getr (pc := 59) (k' := 83) C 83 fw_11_91 kd0 rfl (Nat.le_of_ble_eq_true rfl) rfl rfl dX11_gainByRoom_59 ?_
  obtain ⟨q5, eq5, hF⟩ := bind_some' hF
  refine at_callVv (pc := 62) (ci := 1) C (c_X1_run l g N 83 (upI q3 86 (ja (jm v1 12) v2) (jmax 0 (ja (q3.1 86 (ja (jm v1 12) v2)) v3))) q5 kd83 (OK_up (k := 86) (j := (ja (jm v1 12) v2)) okq3 (jmax_R (isB.r (Or.inl rfl)) (ja_R (q3.1 86 (ja (jm v1 12) v2)) v3))) eq5) kv_X1_run w959 kd83 rfl rfl rfl rfl (Nat.le_of_ble_eq_true rfl) ⟨rfl, rfl, (Nat.le_of_ble_eq_true rfl), (Nat.le_of_ble_eq_true rfl)⟩ dX11_gainByRoom_62 (fun okq5 => ?_)
  refine at_aload_n (pc := 65) C 1 dX11_gainByRoom_65 rfl rfl ?_
  refine at_getr (pc := 66) (k' := 83) C 83 fw_11_91 kd0 rfl (Nat.le_of_ble_eq_true rfl) rfl rfl dX11_gainByRoom_66 ?_
  refine at_geti (pc := 69) (jz := 13) C fw_11_336 kd83 rfl (Nat.le_of_ble_eq_true rfl) rfl rfl dX11_gainByRoom_69 ?_
  refine at_aload_n (pc := 72) C 1 dX11_gainByRoom_72 rfl rfl ?_
  refine at_getr (pc := 73) (k' := 58) C 58 fw_11_71 kd0 rfl (Nat.le_of_ble_eq_true rfl) rfl rfl dX11_gainByRoom_73 ?_
  refine at_geti (pc := 76) (jz := 13) C fw_11_336 kd58 rfl (Nat.le_of_ble_eq_true rfl) rfl rfl dX11_gainByRoom_76 ?_
  refine at_isub (pc := 79) C dX11_gainByRoom_79 ?_
  obtain rfl := Option.some.inj hF
  exact at_iret (pc := 80) C hr hlk (js_R (q5.1 83 13) (q5.1 58 13)) okq5 dX11_gainByRoom_80
abbrev rm_X11_worth : Room := { frames := 7, cells := 0, slots := 0, locals := 174 }
def F_X11_worth_J21 (N : Nat)   (σ : Sto) : Option (Int × Sto) :=
  some ((-1), σ)
def F_X11_worth (N : Nat) (v1 : Int) (v2 : Int) (v3 : Int) (σ : Sto) : Option (Int × Sto) :=
  if v3 < 1 then (F_X11_worth_J21 N   σ) else (if 99999 < v3 then (F_X11_worth_J21 N   σ) else ((F_X11_isLink N v1 v2 σ).bind (fun q3 => if q3.1 = 0 then (F_X11_worth_J21 N   q3.2) else ((F_X11_gainByRoom N v1 v2 v3 q3.2).bind (fun q5 => some (q5.1, q5.2))))))
set_option maxHeartbeats 4000000 in
set_option maxRecDepth 100000 in
theorem c_X11_worth (l : Launch) (g : Geo) (N : Nat) (v1 : Int) (v2 : Int) (v3 : Int) (σ : Sto) (res : Int × Sto) (h1 : inR v1) (h2 : inR v2) (h3 : inR v3) (ok : OK σ) (hF : F_X11_worth N v1 v2 v3 σ = some res) : MtI l g yX11_worth cX11_worth 4 (some .int) rm_X11_worth [vr g 0, vi v1, vi v2, vi v3] σ res.1 res.2 inR := by
  intro sz
  refine Met.ofAt (own := RX11) (QQ := fun z => QI g z res.1 res.2 inR) (by decide +kernel) (Nat.le_of_ble_eq_true rfl) rfl ?_
  intro p e s m args below meth c C hr hlk
  show At p l e rm_X11_worth s m args below meth c 0 0 g 4 (MQ below (QI g s.heap.size res.1 res.2 inR) args s 0 0 (AA g s.heap.size)) 0 [(0, vr g 0), (1, vi v1), (2, vi v2), (3, vi v3)] [] σ
  unfold F_X11_worth at hF
  have J21 : ∀  (σ : Sto), OK σ → F_X11_worth_J21 N   σ = some res → At p l e rm_X11_worth s m args below meth c 0 0 g 4 (MQ below (QI g s.heap.size res.1 res.2 inR) args s 0 0 (AA g s.heap.size)) 21 [] [] σ := by
    intro σ ok hF
    unfold F_X11_worth_J21 at hF
    refine at_iconst (pc := 21) C dX11_worth_21 ?_
    refine at_goto (pc := 22) (tgt := 32) C dX11_worth_22 rfl ?_
    obtain rfl := Option.some.inj hF
    exact at_iret (pc := 32) C hr hlk (show inR (-1) from ⟨by decide, by decide⟩) ok dX11_worth_32
  refine at_iload_n (pc := 0) C 3 dX11_worth_0 rfl rfl ?_
  refine at_iconst (pc := 1) C dX11_worth_1 ?_
  refine at_icmp_lt (pc := 2) (tgt := 21) C h3 (isB.r (Or.inr rfl)) dX11_worth_2 rfl (fun c1 => ?_) (fun c1 => ?_)
  · have hF := (if_pos c1).symm.trans hF
    refine at_sub (lv' := []) [] rfl ?_
    exact J21 σ ok hF
  · have hF := (if_neg c1).symm.trans hF
    refine at_iload_n (pc := 5) C 3 dX11_worth_5 rfl rfl ?_
    refine at_ldc_w (pc := 6) (n := 99999) C dX11_worth_6 w915 ?_
    refine at_icmp_gt (pc := 9) (tgt := 21) C h3 (show inR 99999 from ⟨by decide, by decide⟩) dX11_worth_9 rfl (fun c2 => ?_) (fun c2 => ?_)
    · have hF := (if_pos c2).symm.trans hF
      refine at_sub (lv' := []) [] rfl ?_
      exact J21 σ ok hF
    · have hF := (if_neg c2).symm.trans hF
      refine at_aload_n (pc := 12) C 0 dX11_worth_12 rfl rfl ?_
      refine at_iload_n (pc := 13) C 1 dX11_worth_13 rfl rfl ?_
      refine at_iload_n (pc := 14) C 2 dX11_worth_14 rfl rfl ?_
      obtain ⟨q3, eq3, hF⟩ := bind_some' hF
      refine at_callV (pc := 15) (ci := 11) C (c_X11_isLink l g N v1 v2 σ q3 h1 h2 ok eq3) kv_X11_isLink w895 kd0 rfl rfl rfl rfl (Nat.le_of_ble_eq_true rfl) ⟨rfl, rfl, (Nat.le_of_ble_eq_true rfl), (Nat.le_of_ble_eq_true rfl)⟩ dX11_worth_15 (fun tq3 okq3 => ?_)
      refine at_if_ne (pc := 18) (tgt := 25) C (isB.r tq3) dX11_worth_18 rfl (fun c4 => ?_) (fun c4 => ?_)
      · have hF := (if_neg c4).symm.trans hF
        refine at_aload_n (pc := 25) C 0 dX11_worth_25 rfl rfl ?_
        refine at_iload_n (pc := 26) C 1 dX11_worth_26 rfl rfl ?_
        refine at_iload_n (pc := 27) C 2 dX11_worth_27 rfl rfl ?_
        refine at_iload_n (pc := 28) C 3 dX11_worth_28 rfl rfl ?_
        obtain ⟨q5, eq5, hF⟩ := bind_some' hF
        refine at_callV (pc := 29) (ci := 11) C (c_X11_gainByRoom l g N v1 v2 v3 q3.2 q5 h1 h2 h3 okq3 eq5) kv_X11_gainByRoom w1128 kd0 rfl rfl rfl rfl (Nat.le_of_ble_eq_true rfl) ⟨rfl, rfl, (Nat.le_of_ble_eq_true rfl), (Nat.le_of_ble_eq_true rfl)⟩ dX11_worth_29 (fun tq5 okq5 => ?_)
        obtain rfl := Option.some.inj hF
        exact at_iret (pc := 32) C hr hlk tq5 okq5 dX11_worth_32
      · have hF := (if_pos c4).symm.trans hF
        refine at_sub (lv' := []) [] rfl ?_
        exact J21 q3.2 okq3 hF
abbrev rm_X11_lack : Room := { frames := 7, cells := 0, slots := 0, locals := 174 }
def F_X11_lack_J21 (N : Nat)   (σ : Sto) : Option (Int × Sto) :=
  some ((-1), σ)
def F_X11_lack (N : Nat) (v1 : Int) (v2 : Int) (v3 : Int) (σ : Sto) : Option (Int × Sto) :=
  if v3 < 1 then (F_X11_lack_J21 N   σ) else (if 99999 < v3 then (F_X11_lack_J21 N   σ) else ((F_X11_isLink N v1 v2 σ).bind (fun q3 => if q3.1 = 0 then (F_X11_lack_J21 N   q3.2) else ((F_X11_gainByRoom N v1 v2 (jneg v3) q3.2).bind (fun q5 => some ((jneg q5.1), q5.2))))))
set_option maxHeartbeats 4000000 in
set_option maxRecDepth 100000 in
theorem c_X11_lack (l : Launch) (g : Geo) (N : Nat) (v1 : Int) (v2 : Int) (v3 : Int) (σ : Sto) (res : Int × Sto) (h1 : inR v1) (h2 : inR v2) (h3 : inR v3) (ok : OK σ) (hF : F_X11_lack N v1 v2 v3 σ = some res) : MtI l g yX11_lack cX11_lack 4 (some .int) rm_X11_lack [vr g 0, vi v1, vi v2, vi v3] σ res.1 res.2 inR := by
  intro sz
  refine Met.ofAt (own := RX11) (QQ := fun z => QI g z res.1 res.2 inR) (by decide +kernel) (Nat.le_of_ble_eq_true rfl) rfl ?_
  intro p e s m args below meth c C hr hlk
  show At p l e rm_X11_lack s m args below meth c 0 0 g 4 (MQ below (QI g s.heap.size res.1 res.2 inR) args s 0 0 (AA g s.heap.size)) 0 [(0, vr g 0), (1, vi v1), (2, vi v2), (3, vi v3)] [] σ
  unfold F_X11_lack at hF
  have J21 : ∀  (σ : Sto), OK σ → F_X11_lack_J21 N   σ = some res → At p l e rm_X11_lack s m args below meth c 0 0 g 4 (MQ below (QI g s.heap.size res.1 res.2 inR) args s 0 0 (AA g s.heap.size)) 21 [] [] σ := by
    intro σ ok hF
    unfold F_X11_lack_J21 at hF
    refine at_iconst (pc := 21) C dX11_lack_21 ?_
    refine at_goto (pc := 22) (tgt := 34) C dX11_lack_22 rfl ?_
    obtain rfl := Option.some.inj hF
    exact at_iret (pc := 34) C hr hlk (show inR (-1) from ⟨by decide, by decide⟩) ok dX11_lack_34
  refine at_iload_n (pc := 0) C 3 dX11_lack_0 rfl rfl ?_
  refine at_iconst (pc := 1) C dX11_lack_1 ?_
  refine at_icmp_lt (pc := 2) (tgt := 21) C h3 (isB.r (Or.inr rfl)) dX11_lack_2 rfl (fun c1 => ?_) (fun c1 => ?_)
  · have hF := (if_pos c1).symm.trans hF
    refine at_sub (lv' := []) [] rfl ?_
    exact J21 σ ok hF
  · have hF := (if_neg c1).symm.trans hF
    refine at_iload_n (pc := 5) C 3 dX11_lack_5 rfl rfl ?_
    refine at_ldc_w (pc := 6) (n := 99999) C dX11_lack_6 w915 ?_
    refine at_icmp_gt (pc := 9) (tgt := 21) C h3 (show inR 99999 from ⟨by decide, by decide⟩) dX11_lack_9 rfl (fun c2 => ?_) (fun c2 => ?_)
    · have hF := (if_pos c2).symm.trans hF
      refine at_sub (lv' := []) [] rfl ?_
      exact J21 σ ok hF
    · have hF := (if_neg c2).symm.trans hF
      refine at_aload_n (pc := 12) C 0 dX11_lack_12 rfl rfl ?_
      refine at_iload_n (pc := 13) C 1 dX11_lack_13 rfl rfl ?_
      refine at_iload_n (pc := 14) C 2 dX11_lack_14 rfl rfl ?_
      obtain ⟨q3, eq3, hF⟩ := bind_some' hF
      refine at_callV (pc := 15) (ci := 11) C (c_X11_isLink l g N v1 v2 σ q3 h1 h2 ok eq3) kv_X11_isLink w895 kd0 rfl rfl rfl rfl (Nat.le_of_ble_eq_true rfl) ⟨rfl, rfl, (Nat.le_of_ble_eq_true rfl), (Nat.le_of_ble_eq_true rfl)⟩ dX11_lack_15 (fun tq3 okq3 => ?_)
      refine at_if_ne (pc := 18) (tgt := 25) C (isB.r tq3) dX11_lack_18 rfl (fun c4 => ?_) (fun c4 => ?_)
      · have hF := (if_neg c4).symm.trans hF
        refine at_aload_n (pc := 25) C 0 dX11_lack_25 rfl rfl ?_
        refine at_iload_n (pc := 26) C 1 dX11_lack_26 rfl rfl ?_
        refine at_iload_n (pc := 27) C 2 dX11_lack_27 rfl rfl ?_
        refine at_iload_n (pc := 28) C 3 dX11_lack_28 rfl rfl ?_
        refine at_ineg (pc := 29) C dX11_lack_29 ?_
        obtain ⟨q5, eq5, hF⟩ := bind_some' hF
        refine at_callV (pc := 30) (ci := 11) C (c_X11_gainByRoom l g N v1 v2 (jneg v3) q3.2 q5 h1 h2 (jneg_R v3) okq3 eq5) kv_X11_gainByRoom w1128 kd0 rfl rfl rfl rfl (Nat.le_of_ble_eq_true rfl) ⟨rfl, rfl, (Nat.le_of_ble_eq_true rfl), (Nat.le_of_ble_eq_true rfl)⟩ dX11_lack_30 (fun tq5 okq5 => ?_)
        refine at_ineg (pc := 33) C dX11_lack_33 ?_
        obtain rfl := Option.some.inj hF
        exact at_iret (pc := 34) C hr hlk (jneg_R q5.1) okq5 dX11_lack_34
      · have hF := (if_pos c4).symm.trans hF
        refine at_sub (lv' := []) [] rfl ?_
        exact J21 q3.2 okq3 hF
abbrev rm_X11_reliefWithoutClaims : Room := { frames := 5, cells := 0, slots := 0, locals := 116 }
def F_X11_reliefWithoutClaims (N : Nat) (v1 : Nat) (v2 : Int) (v3 : Nat) (σ : Sto) : Option (Int × Sto) :=
  (F_X5_clear N 73 σ).bind (fun q1 => asB (q1.1 0 1) (fun b2 => (F_X6_fill N 80 b2 v1 v2 v3 q1).bind (fun q3 => asB (q3.1 0 1) (fun b4 => (F_X1_load N 83 b4 80 73 0 q3).bind (fun q5 => (F_X1_run N 83 q5).bind (fun q6 => some ((q6.1 83 13), q6)))))))
set_option maxHeartbeats 4000000 in
set_option maxRecDepth 100000 in
theorem c_X11_reliefWithoutClaims (l : Launch) (g : Geo) (N : Nat) (v1 : Nat) (v2 : Int) (v3 : Nat) (σ : Sto) (res : Int × Sto) (hk1 : knd v1 = (14, 3)) (h2 : inR v2) (hk3 : knd v3 = (0, 12)) (ok : OK σ) (hF : F_X11_reliefWithoutClaims N v1 v2 v3 σ = some res) : MtI l g yX11_reliefWithoutClaims cX11_reliefWithoutClaims 4 (some .int) rm_X11_reliefWithoutClaims [vr g 0, vr g v1, vi v2, vr g v3] σ res.1 res.2 inR := by
  intro sz
  refine Met.ofAt (own := RX11) (QQ := fun z => QI g z res.1 res.2 inR) (by decide +kernel) (Nat.le_of_ble_eq_true rfl) rfl ?_
  intro p e s m args below meth c C hr hlk
  show At p l e rm_X11_reliefWithoutClaims s m args below meth c 0 0 g 4 (MQ below (QI g s.heap.size res.1 res.2 inR) args s 0 0 (AA g s.heap.size)) 0 [(0, vr g 0), (1, vr g v1), (2, vi v2), (3, vr g v3)] [] σ
  unfold F_X11_reliefWithoutClaims at hF
  refine at_aload_n (pc := 0) C 0 dX11_reliefWithoutClaims_0 rfl rfl ?_
  refine at_getr (pc := 1) (k' := 73) C 73 fw_11_82 kd0 rfl (Nat.le_of_ble_eq_true rfl) rfl rfl dX11_reliefWithoutClaims_1 ?_
  obtain ⟨q1, eq1, hF⟩ := bind_some' hF
  refine at_callVv (pc := 4) (ci := 5) C (c_X5_clear l g N 73 σ q1 kd73 ok eq1) kv_X5_clear w671 kd73 rfl rfl rfl rfl (Nat.le_of_ble_eq_true rfl) ⟨rfl, rfl, (Nat.le_of_ble_eq_true rfl), (Nat.le_of_ble_eq_true rfl)⟩ dX11_reliefWithoutClaims_4 (fun okq1 => ?_)
  refine at_aload_n (pc := 7) C 0 dX11_reliefWithoutClaims_7 rfl rfl ?_
  refine at_getr (pc := 8) (k' := 80) C 80 fw_11_88 kd0 rfl (Nat.le_of_ble_eq_true rfl) rfl rfl dX11_reliefWithoutClaims_8 ?_
  refine at_aload_n (pc := 11) C 0 dX11_reliefWithoutClaims_11 rfl rfl ?_
  obtain ⟨b2, eb2, kb2, hF⟩ := asB_some hF
  refine at_getd (pc := 12) (jz := 1) (k2 := b2) C fw_11_19 kd0 rfl (Nat.le_of_ble_eq_true rfl) rfl rfl eb2 dX11_reliefWithoutClaims_12 ?_
  refine at_aload_n (pc := 15) C 1 dX11_reliefWithoutClaims_15 rfl rfl ?_
  refine at_iload_n (pc := 16) C 2 dX11_reliefWithoutClaims_16 rfl rfl ?_
  refine at_aload_n (pc := 17) C 3 dX11_reliefWithoutClaims_17 rfl rfl ?_
  obtain ⟨q3, eq3, hF⟩ := bind_some' hF
  refine at_callVv (pc := 18) (ci := 6) C (c_X6_fill l g N 80 b2 v1 v2 v3 q1 q3 kd80 kb2 hk1 h2 hk3 okq1 eq3) kv_X6_fill w806 kd80 rfl rfl rfl rfl (Nat.le_of_ble_eq_true rfl) ⟨rfl, rfl, (Nat.le_of_ble_eq_true rfl), (Nat.le_of_ble_eq_true rfl)⟩ dX11_reliefWithoutClaims_18 (fun okq3 => ?_)
  refine at_aload_n (pc := 21) C 0 dX11_reliefWithoutClaims_21 rfl rfl ?_
  refine at_getr (pc := 22) (k' := 83) C 83 fw_11_91 kd0 rfl (Nat.le_of_ble_eq_true rfl) rfl rfl dX11_reliefWithoutClaims_22 ?_
  refine at_aload_n (pc := 25) C 0 dX11_reliefWithoutClaims_25 rfl rfl ?_
  obtain ⟨b4, eb4, kb4, hF⟩ := asB_some hF
  refine at_getd (pc := 26) (jz := 1) (k2 := b4) C fw_11_19 kd0 rfl (Nat.le_of_ble_eq_true rfl) rfl rfl eb4 dX11_reliefWithoutClaims_26 ?_
  refine at_aload_n (pc := 29) C 0 dX11_reliefWithoutClaims_29 rfl rfl ?_
  refine at_getr (pc := 30) (k' := 80) C 80 fw_11_88 kd0 rfl (Nat.le_of_ble_eq_true rfl) rfl rfl dX11_reliefWithoutClaims_30 ?_
  refine at_aload_n (pc := 33) C 0 dX11_reliefWithoutClaims_33 rfl rfl ?_
  refine at_getr (pc := 34) (k' := 73) C 73 fw_11_82 kd0 rfl (Nat.le_of_ble_eq_true rfl) rfl rfl dX11_reliefWithoutClaims_34 ?_
  refine at_iconst (pc := 37) C dX11_reliefWithoutClaims_37 ?_
  obtain ⟨q5, eq5, hF⟩ := bind_some' hF
  refine at_callVv (pc := 38) (ci := 1) C (c_X1_load l g N 83 b4 80 73 0 q3 q5 kd83 kb4 kd80 kd73 (isB.r (Or.inl rfl)) okq3 eq5) kv_X1_load w949 kd83 rfl rfl rfl rfl (Nat.le_of_ble_eq_true rfl) ⟨rfl, rfl, (Nat.le_of_ble_eq_true rfl), (Nat.le_of_ble_eq_true rfl)⟩ dX11_reliefWithoutClaims_38 (fun okq5 => ?_)
  refine at_aload_n (pc := 41) C 0 dX11_reliefWithoutClaims_41 rfl rfl ?_
  refine at_getr (pc := 42) (k' := 83) C 83 fw_11_91 kd0 rfl (Nat.le_of_ble_eq_true rfl) rfl rfl dX11_reliefWithoutClaims_42 ?_
  obtain ⟨q6, eq6, hF⟩ := bind_some' hF
  refine at_callVv (pc := 45) (ci := 1) C (c_X1_run l g N 83 q5 q6 kd83 okq5 eq6) kv_X1_run w959 kd83 rfl rfl rfl rfl (Nat.le_of_ble_eq_true rfl) ⟨rfl, rfl, (Nat.le_of_ble_eq_true rfl), (Nat.le_of_ble_eq_true rfl)⟩ dX11_reliefWithoutClaims_45 (fun okq6 => ?_)
  refine at_aload_n (pc := 48) C 0 dX11_reliefWithoutClaims_48 rfl rfl ?_
  refine at_getr (pc := 49) (k' := 83) C 83 fw_11_91 kd0 rfl (Nat.le_of_ble_eq_true rfl) rfl rfl dX11_reliefWithoutClaims_49 ?_
  refine at_geti (pc := 52) (jz := 13) C fw_11_336 kd83 rfl (Nat.le_of_ble_eq_true rfl) rfl rfl dX11_reliefWithoutClaims_52 ?_
  obtain rfl := Option.some.inj hF
  exact at_iret (pc := 55) C hr hlk (okq6 83 13) okq6 dX11_reliefWithoutClaims_55
abbrev rm_X11_byCarry : Room := { frames := 6, cells := 0, slots := 0, locals := 139 }
def F_X11_byCarry (N : Nat) (v1 : Int) (σ : Sto) : Option (Int × Sto) :=
  if v1 < 0 then (some ((-1), σ)) else (if v1 ≤ 1 then ((F_X11_refreshNet N σ).bind (fun q3 => asB (q3.1 0 1) (fun b4 => (F_X11_reliefWithoutClaims N 52 v1 (b4 + 5) q3).bind (fun q5 => some (q5.1, q5.2))))) else (some ((-1), σ)))
set_option maxHeartbeats 4000000 in
set_option maxRecDepth 100000 in
theorem c_X11_byCarry (l : Launch) (g : Geo) (N : Nat) (v1 : Int) (σ : Sto) (res : Int × Sto) (h1 : inR v1) (ok : OK σ) (hF : F_X11_byCarry N v1 σ = some res) : MtI l g yX11_byCarry cX11_byCarry 2 (some .int) rm_X11_byCarry [vr g 0, vi v1] σ res.1 res.2 inR := by
  intro sz
  refine Met.ofAt (own := RX11) (QQ := fun z => QI g z res.1 res.2 inR) (by decide +kernel) (Nat.le_of_ble_eq_true rfl) rfl ?_
  intro p e s m args below meth c C hr hlk
  show At p l e rm_X11_byCarry s m args below meth c 0 0 g 2 (MQ below (QI g s.heap.size res.1 res.2 inR) args s 0 0 (AA g s.heap.size)) 0 [(0, vr g 0), (1, vi v1)] [] σ
  unfold F_X11_byCarry at hF
  refine at_iload_n (pc := 0) C 1 dX11_byCarry_0 rfl rfl ?_
  refine at_if_lt (pc := 1) (tgt := 9) C h1 dX11_byCarry_1 rfl (fun c1 => ?_) (fun c1 => ?_)
  · have hF := (if_pos c1).symm.trans hF
    refine at_iconst (pc := 9) C dX11_byCarry_9 ?_
    obtain rfl := Option.some.inj hF
    exact at_iret (pc := 10) C hr hlk (show inR (-1) from ⟨by decide, by decide⟩) ok dX11_byCarry_10
  · have hF := (if_neg c1).symm.trans hF
    refine at_iload_n (pc := 4) C 1 dX11_byCarry_4 rfl rfl ?_
    refine at_iconst (pc := 5) C dX11_byCarry_5 ?_
    refine at_icmp_le (pc := 6) (tgt := 11) C h1 (isB.r (Or.inr rfl)) dX11_byCarry_6 rfl (fun c2 => ?_) (fun c2 => ?_)
    · have hF := (if_pos c2).symm.trans hF
      refine at_aload_n (pc := 11) C 0 dX11_byCarry_11 rfl rfl ?_
      obtain ⟨q3, eq3, hF⟩ := bind_some' hF
      refine at_callVv (pc := 12) (ci := 11) C (c_X11_refreshNet l g N  σ q3  ok eq3) kv_X11_refreshNet w791 kd0 rfl rfl rfl rfl (Nat.le_of_ble_eq_true rfl) ⟨rfl, rfl, (Nat.le_of_ble_eq_true rfl), (Nat.le_of_ble_eq_true rfl)⟩ dX11_byCarry_12 (fun okq3 => ?_)
      refine at_aload_n (pc := 15) C 0 dX11_byCarry_15 rfl rfl ?_
      refine at_aload_n (pc := 16) C 0 dX11_byCarry_16 rfl rfl ?_
      refine at_getr (pc := 17) (k' := 52) C 52 fw_11_57 kd0 rfl (Nat.le_of_ble_eq_true rfl) rfl rfl dX11_byCarry_17 ?_
      refine at_iload_n (pc := 20) C 1 dX11_byCarry_20 rfl rfl ?_
      refine at_aload_n (pc := 21) C 0 dX11_byCarry_21 rfl rfl ?_
      obtain ⟨b4, eb4, kb4, hF⟩ := asB_some hF
      refine at_getd (pc := 22) (jz := 1) (k2 := b4) C fw_11_19 kd0 rfl (Nat.le_of_ble_eq_true rfl) rfl rfl eb4 dX11_byCarry_22 ?_
      refine at_getr (pc := 25) C 5 fw_11_172 kb4 rfl (Nat.le_of_ble_eq_true rfl) rfl rfl dX11_byCarry_25 ?_
      obtain ⟨q5, eq5, hF⟩ := bind_some' hF
      refine at_callV (pc := 28) (ci := 11) C (c_X11_reliefWithoutClaims l g N 52 v1 (b4 + 5) q3 q5 kd52 h1 (kf0_4 kb4) okq3 eq5) kv_X11_reliefWithoutClaims w1140 kd0 rfl rfl rfl rfl (Nat.le_of_ble_eq_true rfl) ⟨rfl, rfl, (Nat.le_of_ble_eq_true rfl), (Nat.le_of_ble_eq_true rfl)⟩ dX11_byCarry_28 (fun tq5 okq5 => ?_)
      obtain rfl := Option.some.inj hF
      exact at_iret (pc := 31) C hr hlk tq5 okq5 dX11_byCarry_31
    · have hF := (if_neg c2).symm.trans hF
      refine at_iconst (pc := 9) C dX11_byCarry_9 ?_
      obtain rfl := Option.some.inj hF
      exact at_iret (pc := 10) C hr hlk (show inR (-1) from ⟨by decide, by decide⟩) ok dX11_byCarry_10
abbrev rm_X11_reliefByGate : Room := { frames := 6, cells := 0, slots := 0, locals := 139 }
def F_X11_reliefByGate (N : Nat) (v1 : Int) (σ : Sto) : Option (Int × Sto) :=
  asB (σ.1 0 1) (fun b1 => (F_X4_fill N 77 b1 v1 σ).bind (fun q2 => asB (q2.1 0 1) (fun b3 => asB (q2.1 0 1) (fun b4 => (F_X11_reliefWithoutClaims N 77 (q2.1 b3 12) (b4 + 5) q2).bind (fun q5 => some (q5.1, q5.2))))))
set_option maxHeartbeats 4000000 in
set_option maxRecDepth 100000 in
theorem c_X11_reliefByGate (l : Launch) (g : Geo) (N : Nat) (v1 : Int) (σ : Sto) (res : Int × Sto) (h1 : inR v1) (ok : OK σ) (hF : F_X11_reliefByGate N v1 σ = some res) : MtI l g yX11_reliefByGate cX11_reliefByGate 2 (some .int) rm_X11_reliefByGate [vr g 0, vi v1] σ res.1 res.2 inR := by
  intro sz
  refine Met.ofAt (own := RX11) (QQ := fun z => QI g z res.1 res.2 inR) (by decide +kernel) (Nat.le_of_ble_eq_true rfl) rfl ?_
  intro p e s m args below meth c C hr hlk
  show At p l e rm_X11_reliefByGate s m args below meth c 0 0 g 2 (MQ below (QI g s.heap.size res.1 res.2 inR) args s 0 0 (AA g s.heap.size)) 0 [(0, vr g 0), (1, vi v1)] [] σ
  unfold F_X11_reliefByGate at hF
  refine at_aload_n (pc := 0) C 0 dX11_reliefByGate_0 rfl rfl ?_
  refine at_getr (pc := 1) (k' := 77) C 77 fw_11_85 kd0 rfl (Nat.le_of_ble_eq_true rfl) rfl rfl dX11_reliefByGate_1 ?_
  refine at_aload_n (pc := 4) C 0 dX11_reliefByGate_4 rfl rfl ?_
  obtain ⟨b1, eb1, kb1, hF⟩ := asB_some hF
  refine at_getd (pc := 5) (jz := 1) (k2 := b1) C fw_11_19 kd0 rfl (Nat.le_of_ble_eq_true rfl) rfl rfl eb1 dX11_reliefByGate_5 ?_
  refine at_iload_n (pc := 8) C 1 dX11_reliefByGate_8 rfl rfl ?_
  refine at_aload_n (pc := 9) C 0 dX11_reliefByGate_9 rfl rfl ?_
  refine at_getr (pc := 10) (k' := 46) C 46 fw_11_50 kd0 rfl (Nat.le_of_ble_eq_true rfl) rfl rfl dX11_reliefByGate_10 ?_
  obtain ⟨q2, eq2, hF⟩ := bind_some' hF
  refine at_callVv (pc := 13) (ci := 4) C (c_X4_fill l g N 77 b1 v1 σ q2 kd77 kb1 h1 ok eq2) kv_X4_fill w795 kd77 rfl rfl rfl rfl (Nat.le_of_ble_eq_true rfl) ⟨rfl, rfl, (Nat.le_of_ble_eq_true rfl), (Nat.le_of_ble_eq_true rfl)⟩ dX11_reliefByGate_13 (fun okq2 => ?_)
  refine at_aload_n (pc := 16) C 0 dX11_reliefByGate_16 rfl rfl ?_
  refine at_aload_n (pc := 17) C 0 dX11_reliefByGate_17 rfl rfl ?_
  refine at_getr (pc := 18) (k' := 77) C 77 fw_11_85 kd0 rfl (Nat.le_of_ble_eq_true rfl) rfl rfl dX11_reliefByGate_18 ?_
  refine at_aload_n (pc := 21) C 0 dX11_reliefByGate_21 rfl rfl ?_
  obtain ⟨b3, eb3, kb3, hF⟩ := asB_some hF
  refine at_getd (pc := 22) (jz := 1) (k2 := b3) C fw_11_19 kd0 rfl (Nat.le_of_ble_eq_true rfl) rfl rfl eb3 dX11_reliefByGate_22 ?_
  refine at_geti (pc := 25) (jz := 12) C fw_11_428 kb3 rfl (Nat.le_of_ble_eq_true rfl) rfl rfl dX11_reliefByGate_25 ?_
  refine at_aload_n (pc := 28) C 0 dX11_reliefByGate_28 rfl rfl ?_
  obtain ⟨b4, eb4, kb4, hF⟩ := asB_some hF
  refine at_getd (pc := 29) (jz := 1) (k2 := b4) C fw_11_19 kd0 rfl (Nat.le_of_ble_eq_true rfl) rfl rfl eb4 dX11_reliefByGate_29 ?_
  refine at_getr (pc := 32) C 5 fw_11_172 kb4 rfl (Nat.le_of_ble_eq_true rfl) rfl rfl dX11_reliefByGate_32 ?_
  obtain ⟨q5, eq5, hF⟩ := bind_some' hF
  refine at_callV (pc := 35) (ci := 11) C (c_X11_reliefWithoutClaims l g N 77 (q2.1 b3 12) (b4 + 5) q2 q5 kd77 (okq2 b3 12) (kf0_4 kb4) okq2 eq5) kv_X11_reliefWithoutClaims w1140 kd0 rfl rfl rfl rfl (Nat.le_of_ble_eq_true rfl) ⟨rfl, rfl, (Nat.le_of_ble_eq_true rfl), (Nat.le_of_ble_eq_true rfl)⟩ dX11_reliefByGate_35 (fun tq5 okq5 => ?_)
  obtain rfl := Option.some.inj hF
  exact at_iret (pc := 38) C hr hlk tq5 okq5 dX11_reliefByGate_38
abbrev rm_X11_byGate : Room := { frames := 7, cells := 0, slots := 0, locals := 160 }
def F_X11_byGate_J11 (N : Nat)   (σ : Sto) : Option (Int × Sto) :=
  some ((-1), σ)
def F_X11_byGate (N : Nat) (v1 : Int) (σ : Sto) : Option (Int × Sto) :=
  if v1 < 1 then (F_X11_byGate_J11 N   σ) else (if v1 ≤ 100 then ((F_X11_reliefByGate N v1 σ).bind (fun q3 => some (q3.1, q3.2))) else (F_X11_byGate_J11 N   σ))
set_option maxHeartbeats 4000000 in
set_option maxRecDepth 100000 in
theorem c_X11_byGate (l : Launch) (g : Geo) (N : Nat) (v1 : Int) (σ : Sto) (res : Int × Sto) (h1 : inR v1) (ok : OK σ) (hF : F_X11_byGate N v1 σ = some res) : MtI l g yX11_byGate cX11_byGate 2 (some .int) rm_X11_byGate [vr g 0, vi v1] σ res.1 res.2 inR := by
  intro sz
  refine Met.ofAt (own := RX11) (QQ := fun z => QI g z res.1 res.2 inR) (by decide +kernel) (Nat.le_of_ble_eq_true rfl) rfl ?_
  intro p e s m args below meth c C hr hlk
  show At p l e rm_X11_byGate s m args below meth c 0 0 g 2 (MQ below (QI g s.heap.size res.1 res.2 inR) args s 0 0 (AA g s.heap.size)) 0 [(0, vr g 0), (1, vi v1)] [] σ
  unfold F_X11_byGate at hF
  have J11 : ∀  (σ : Sto), OK σ → F_X11_byGate_J11 N   σ = some res → At p l e rm_X11_byGate s m args below meth c 0 0 g 2 (MQ below (QI g s.heap.size res.1 res.2 inR) args s 0 0 (AA g s.heap.size)) 11 [] [] σ := by
    intro σ ok hF
    unfold F_X11_byGate_J11 at hF
    refine at_iconst (pc := 11) C dX11_byGate_11 ?_
    refine at_goto (pc := 12) (tgt := 20) C dX11_byGate_12 rfl ?_
    obtain rfl := Option.some.inj hF
    exact at_iret (pc := 20) C hr hlk (show inR (-1) from ⟨by decide, by decide⟩) ok dX11_byGate_20
  refine at_iload_n (pc := 0) C 1 dX11_byGate_0 rfl rfl ?_
  refine at_iconst (pc := 1) C dX11_byGate_1 ?_
  refine at_icmp_lt (pc := 2) (tgt := 11) C h1 (isB.r (Or.inr rfl)) dX11_byGate_2 rfl (fun c1 => ?_) (fun c1 => ?_)
  · have hF := (if_pos c1).symm.trans hF
    refine at_sub (lv' := []) [] rfl ?_
    exact J11 σ ok hF
  · have hF := (if_neg c1).symm.trans hF
    refine at_iload_n (pc := 5) C 1 dX11_byGate_5 rfl rfl ?_
    refine at_bipush (pc := 6) C dX11_byGate_6 (by decide) ?_
    refine at_icmp_le (pc := 8) (tgt := 15) C h1 (show inR 100 from ⟨by decide, by decide⟩) dX11_byGate_8 rfl (fun c2 => ?_) (fun c2 => ?_)
    · have hF := (if_pos c2).symm.trans hF
      refine at_aload_n (pc := 15) C 0 dX11_byGate_15 rfl rfl ?_
      refine at_iload_n (pc := 16) C 1 dX11_byGate_16 rfl rfl ?_
      obtain ⟨q3, eq3, hF⟩ := bind_some' hF
      refine at_callV (pc := 17) (ci := 11) C (c_X11_reliefByGate l g N v1 σ q3 h1 ok eq3) kv_X11_reliefByGate w1148 kd0 rfl rfl rfl rfl (Nat.le_of_ble_eq_true rfl) ⟨rfl, rfl, (Nat.le_of_ble_eq_true rfl), (Nat.le_of_ble_eq_true rfl)⟩ dX11_byGate_17 (fun tq3 okq3 => ?_)
      obtain rfl := Option.some.inj hF
      exact at_iret (pc := 20) C hr hlk tq3 okq3 dX11_byGate_20
    · have hF := (if_neg c2).symm.trans hF
      refine at_sub (lv' := []) [] rfl ?_
      exact J11 σ ok hF
abbrev rm_X11_gateFor : Room := { frames := 7, cells := 0, slots := 0, locals := 160 }
def F_X11_gateFor_J69 (N : Nat)  (v2 : Int) (σ : Sto) : Option (Int × Sto) :=
  if v2 = 0 then (some ((-2), σ)) else (some (v2, σ))
def F_X11_gateFor_J63 (N : Nat) (nx21 : (Int × Int × Int × Sto) → Option (Int × Sto)) (v1 : Int) (v2 : Int) (v3 : Int) (v4 : Int) (σ : Sto) : Option (Int × Sto) :=
  nx21 (v2, v3, (ja v4 1), σ)
def F_X11_gateFor_B21 (N : Nat) (nx21 : (Int × Int × Int × Sto) → Option (Int × Sto)) (v1 : Int) (v2 : Int) (v3 : Int) (v4 : Int) (σ : Sto) : Option (Int × Sto) :=
  if 100 ≤ v4 then (F_X11_gateFor_J69 N  v2 σ) else (if v3 ≤ v2 then (F_X11_gateFor_J69 N  v2 σ) else ((F_X11_reliefByGate N (jdiv (ja (ja v2 v3) 1) 2) σ).bind (fun q6 => if q6.1 < v1 then (F_X11_gateFor_J63 N nx21 v1 v2 (js (jdiv (ja (ja v2 v3) 1) 2) 1) v4 q6.2) else (F_X11_gateFor_J63 N nx21 v1 (jdiv (ja (ja v2 v3) 1) 2) v3 v4 q6.2))))
def F_X11_gateFor (N : Nat) (v1 : Int) (σ : Sto) : Option (Int × Sto) :=
  if v1 < 0 then (some ((-1), σ)) else (if v1 ≤ 9999999 then (loopK (fun q nx21 => F_X11_gateFor_B21 N  nx21 v1 q.1 q.2.1 q.2.2.1 q.2.2.2) N (0, 100, 0, σ)) else (some ((-1), σ)))
set_option maxHeartbeats 4000000 in
set_option maxRecDepth 100000 in
theorem c_X11_gateFor (l : Launch) (g : Geo) (N : Nat) (v1 : Int) (σ : Sto) (res : Int × Sto) (h1 : inR v1) (ok : OK σ) (hF : F_X11_gateFor N v1 σ = some res) : MtI l g yX11_gateFor cX11_gateFor 6 (some .int) rm_X11_gateFor [vr g 0, vi v1] σ res.1 res.2 inR := by
  intro sz
  refine Met.ofAt (own := RX11) (QQ := fun z => QI g z res.1 res.2 inR) (by decide +kernel) (Nat.le_of_ble_eq_true rfl) rfl ?_
  intro p e s m args below meth c C hr hlk
  show At p l e rm_X11_gateFor s m args below meth c 0 0 g 6 (MQ below (QI g s.heap.size res.1 res.2 inR) args s 0 0 (AA g s.heap.size)) 0 [(0, vr g 0), (1, vi v1)] [] σ
  unfold F_X11_gateFor at hF
  refine at_iload_n (pc := 0) C 1 dX11_gateFor_0 rfl rfl ?_
  refine at_if_lt (pc := 1) (tgt := 11) C h1 dX11_gateFor_1 rfl (fun c1 => ?_) (fun c1 => ?_)
  · have hF := (if_pos c1).symm.trans hF
    refine at_iconst (pc := 11) C dX11_gateFor_11 ?_
    obtain rfl := Option.some.inj hF
    exact at_iret (pc := 12) C hr hlk (show inR (-1) from ⟨by decide, by decide⟩) ok dX11_gateFor_12
  · have hF := (if_neg c1).symm.trans hF
    refine at_iload_n (pc := 4) C 1 dX11_gateFor_4 rfl rfl ?_
    refine at_ldc_w (pc := 5) (n := 9999999) C dX11_gateFor_5 w1156 ?_
    refine at_icmp_le (pc := 8) (tgt := 13) C h1 (show inR 9999999 from ⟨by decide, by decide⟩) dX11_gateFor_8 rfl (fun c2 => ?_) (fun c2 => ?_)
    · have hF := (if_pos c2).symm.trans hF
      refine at_iconst (pc := 13) C dX11_gateFor_13 ?_
      refine at_istore_n (pc := 14) (lv' := [(2, vi 0), (0, vr g 0), (1, vi v1)]) C dX11_gateFor_14 rfl (Nat.le_of_ble_eq_true rfl) rfl ?_
      refine at_bipush (pc := 15) C dX11_gateFor_15 (by decide) ?_
      refine at_istore_n (pc := 17) (lv' := [(3, vi 100), (2, vi 0), (0, vr g 0), (1, vi v1)]) C dX11_gateFor_17 rfl (Nat.le_of_ble_eq_true rfl) rfl ?_
      refine at_iconst (pc := 18) C dX11_gateFor_18 ?_
      refine at_istore (pc := 19) (lv' := [(4, vi 0), (3, vi 100), (2, vi 0), (0, vr g 0), (1, vi v1)]) C dX11_gateFor_19 (Nat.le_of_ble_eq_true rfl) rfl ?_
      have L21 : ∀ (v1 : Int) (v2 : Int) (v3 : Int) (v4 : Int) (σ : Sto), inR v1 → inR v2 → inR v3 → inR v4 → OK σ → loopK (fun q nx21 => F_X11_gateFor_B21 N  nx21 v1 q.1 q.2.1 q.2.2.1 q.2.2.2) N (v2, v3, v4, σ) = some res → At p l e rm_X11_gateFor s m args below meth c 0 0 g 6 (MQ below (QI g s.heap.size res.1 res.2 inR) args s 0 0 (AA g s.heap.size)) 21 [(0, vr g 0), (1, vi v1), (2, vi v2), (3, vi v3), (4, vi v4)] [] σ := by
        intro v1 v2 v3 v4 σ h1 h2 h3 h4 ok hF
        refine loopK_ind (res := res) (P := fun (q : Int × Int × Int × Sto) => inR q.1 → inR q.2.1 → inR q.2.2.1 → OK q.2.2.2 → At p l e rm_X11_gateFor s m args below meth c 0 0 g 6 (MQ below (QI g s.heap.size res.1 res.2 inR) args s 0 0 (AA g s.heap.size)) 21 [(0, vr g 0), (1, vi v1), (2, vi q.1), (3, vi q.2.1), (4, vi q.2.2.1)] [] q.2.2.2) ?_ N _ hF h2 h3 h4 ok
        intro nx21 q ih21 hF
        obtain ⟨v2, v3, v4, σ⟩ := q
        intro h2 h3 h4 ok
        have hF : F_X11_gateFor_B21 N  nx21 v1 v2 v3 v4 σ = some res := hF
        unfold F_X11_gateFor_B21 at hF
        have J69 : ∀ (v2 : Int) (σ : Sto), inR v2 → OK σ → F_X11_gateFor_J69 N  v2 σ = some res → At p l e rm_X11_gateFor s m args below meth c 0 0 g 6 (MQ below (QI g s.heap.size res.1 res.2 inR) args s 0 0 (AA g s.heap.size)) 69 [(2, vi v2)] [] σ := by
          intro v2 σ h2 ok hF
          unfold F_X11_gateFor_J69 at hF
          refine at_iload_n (pc := 69) C 0 dX11_gateFor_69 rfl rfl ?_
          refine at_if_ne (pc := 70) (tgt := 78) C h2 dX11_gateFor_70 rfl (fun c3 => ?_) (fun c3 => ?_)
          · have hF := (if_neg c3).symm.trans hF
            refine at_iload_n (pc := 78) C 0 dX11_gateFor_78 rfl rfl ?_
            obtain rfl := Option.some.inj hF
            exact at_iret (pc := 79) C hr hlk h2 ok dX11_gateFor_79
          · have hF := (if_pos c3).symm.trans hF
            refine at_bipush (pc := 73) C dX11_gateFor_73 (by decide) ?_
            refine at_goto (pc := 75) (tgt := 79) C dX11_gateFor_75 rfl ?_
            obtain rfl := Option.some.inj hF
            exact at_iret (pc := 79) C hr hlk (show inR (-2) from ⟨by decide, by decide⟩) ok dX11_gateFor_79
        refine at_iload (pc := 21) C 4 dX11_gateFor_21 rfl ?_
        refine at_bipush (pc := 23) C dX11_gateFor_23 (by decide) ?_
        refine at_icmp_ge (pc := 25) (tgt := 69) C h4 (show inR 100 from ⟨by decide, by decide⟩) dX11_gateFor_25 rfl (fun c4 => ?_) (fun c4 => ?_)
        · have hF := (if_pos c4).symm.trans hF
          refine at_sub (lv' := [(2, vi v2)]) [2] rfl ?_
          exact J69 v2 σ h2 ok hF
        · have hF := (if_neg c4).symm.trans hF
          refine at_iload_n (pc := 28) C 2 dX11_gateFor_28 rfl rfl ?_
          refine at_iload_n (pc := 29) C 3 dX11_gateFor_29 rfl rfl ?_
          refine at_icmp_ge (pc := 30) (tgt := 69) C h2 h3 dX11_gateFor_30 rfl (fun c5 => ?_) (fun c5 => ?_)
          · have hF := (if_pos c5).symm.trans hF
            refine at_sub (lv' := [(2, vi v2)]) [2] rfl ?_
            exact J69 v2 σ h2 ok hF
          · have hF := (if_neg c5).symm.trans hF
            have J63 : ∀ (v2 : Int) (v3 : Int) (v4 : Int) (σ : Sto), inR v2 → inR v3 → inR v4 → OK σ → F_X11_gateFor_J63 N nx21 v1 v2 v3 v4 σ = some res → At p l e rm_X11_gateFor s m args below meth c 0 0 g 6 (MQ below (QI g s.heap.size res.1 res.2 inR) args s 0 0 (AA g s.heap.size)) 63 [(0, vr g 0), (1, vi v1), (2, vi v2), (3, vi v3), (4, vi v4)] [] σ := by
              intro v2 v3 v4 σ h2 h3 h4 ok hF
              unfold F_X11_gateFor_J63 at hF
              refine at_iinc (pc := 63) (lv' := [(4, vi (ja v4 1)), (0, vr g 0), (1, vi v1), (2, vi v2), (3, vi v3)]) C 4 dX11_gateFor_63 rfl (Nat.le_of_ble_eq_true rfl) rfl ?_
              refine at_goto (pc := 66) (tgt := 21) C dX11_gateFor_66 rfl ?_
              refine at_sub (lv' := [(0, vr g 0), (1, vi v1), (2, vi v2), (3, vi v3), (4, vi (ja v4 1))]) [1, 2, 3, 4, 0] rfl ?_
              exact ih21 _ hF h2 h3 (ja_R v4 1) ok
            refine at_iload_n (pc := 33) C 2 dX11_gateFor_33 rfl rfl ?_
            refine at_iload_n (pc := 34) C 3 dX11_gateFor_34 rfl rfl ?_
            refine at_iadd (pc := 35) C dX11_gateFor_35 ?_
            refine at_iconst (pc := 36) C dX11_gateFor_36 ?_
            refine at_iadd (pc := 37) C dX11_gateFor_37 ?_
            refine at_iconst (pc := 38) C dX11_gateFor_38 ?_
            refine at_idiv (pc := 39) C dX11_gateFor_39 (show inR 2 from ⟨by decide, by decide⟩) (by decide) ?_
            refine at_istore (pc := 40) (lv' := [(5, vi (jdiv (ja (ja v2 v3) 1) 2)), (0, vr g 0), (1, vi v1), (2, vi v2), (3, vi v3), (4, vi v4)]) C dX11_gateFor_40 (Nat.le_of_ble_eq_true rfl) rfl ?_
            refine at_aload_n (pc := 42) C 1 dX11_gateFor_42 rfl rfl ?_
            refine at_iload (pc := 43) C 0 dX11_gateFor_43 rfl ?_
            obtain ⟨q6, eq6, hF⟩ := bind_some' hF
            refine at_callV (pc := 45) (ci := 11) C (c_X11_reliefByGate l g N (jdiv (ja (ja v2 v3) 1) 2) σ q6 (jdiv_R (ja (ja v2 v3) 1) 2) ok eq6) kv_X11_reliefByGate w1148 kd0 rfl rfl rfl rfl (Nat.le_of_ble_eq_true rfl) ⟨rfl, rfl, (Nat.le_of_ble_eq_true rfl), (Nat.le_of_ble_eq_true rfl)⟩ dX11_gateFor_45 (fun tq6 okq6 => ?_)
            refine at_iload_n (pc := 48) C 2 dX11_gateFor_48 rfl rfl ?_
            refine at_icmp_lt (pc := 49) (tgt := 58) C tq6 h1 dX11_gateFor_49 rfl (fun c7 => ?_) (fun c7 => ?_)
            · have hF := (if_pos c7).symm.trans hF
              refine at_iload (pc := 58) C 0 dX11_gateFor_58 rfl ?_
              refine at_iconst (pc := 60) C dX11_gateFor_60 ?_
              refine at_isub (pc := 61) C dX11_gateFor_61 ?_
              refine at_istore_n (pc := 62) (lv' := [(3, vi (js (jdiv (ja (ja v2 v3) 1) 2) 1)), (5, vi (jdiv (ja (ja v2 v3) 1) 2)), (0, vr g 0), (1, vi v1), (2, vi v2), (4, vi v4)]) C dX11_gateFor_62 rfl (Nat.le_of_ble_eq_true rfl) rfl ?_
              refine at_sub (lv' := [(0, vr g 0), (1, vi v1), (2, vi v2), (3, vi (js (jdiv (ja (ja v2 v3) 1) 2) 1)), (4, vi v4)]) [2, 3, 4, 0, 5] rfl ?_
              exact J63 v2 (js (jdiv (ja (ja v2 v3) 1) 2) 1) v4 q6.2 h2 (js_R (jdiv (ja (ja v2 v3) 1) 2) 1) h4 okq6 hF
            · have hF := (if_neg c7).symm.trans hF
              refine at_iload (pc := 52) C 0 dX11_gateFor_52 rfl ?_
              refine at_istore_n (pc := 54) (lv' := [(2, vi (jdiv (ja (ja v2 v3) 1) 2)), (5, vi (jdiv (ja (ja v2 v3) 1) 2)), (0, vr g 0), (1, vi v1), (3, vi v3), (4, vi v4)]) C dX11_gateFor_54 rfl (Nat.le_of_ble_eq_true rfl) rfl ?_
              refine at_goto (pc := 55) (tgt := 63) C dX11_gateFor_55 rfl ?_
              refine at_sub (lv' := [(0, vr g 0), (1, vi v1), (2, vi (jdiv (ja (ja v2 v3) 1) 2)), (3, vi v3), (4, vi v4)]) [2, 3, 0, 4, 5] rfl ?_
              exact J63 (jdiv (ja (ja v2 v3) 1) 2) v3 v4 q6.2 (jdiv_R (ja (ja v2 v3) 1) 2) h3 h4 okq6 hF
      refine at_sub (lv' := [(0, vr g 0), (1, vi v1), (2, vi 0), (3, vi 100), (4, vi 0)]) [3, 4, 2, 1, 0] rfl ?_
      exact L21 v1 0 100 0 σ h1 (isB.r (Or.inl rfl)) (show inR 100 from ⟨by decide, by decide⟩) (isB.r (Or.inl rfl)) ok hF
    · have hF := (if_neg c2).symm.trans hF
      refine at_iconst (pc := 11) C dX11_gateFor_11 ?_
      obtain rfl := Option.some.inj hF
      exact at_iret (pc := 12) C hr hlk (show inR (-1) from ⟨by decide, by decide⟩) ok dX11_gateFor_12
abbrev rm_X11_ifFirst : Room := { frames := 6, cells := 0, slots := 0, locals := 139 }
def F_X11_ifFirst (N : Nat) (v1 : Int) (v2 : Int) (σ : Sto) : Option (Int × Sto) :=
  asB (σ.1 0 1) (fun b1 => (F_X0_hasPeriod N b1 v1 σ).bind (fun q2 => if q2 = 0 then (some ((-1), σ)) else (if v2 < 0 then (some ((-1), σ)) else (asB (σ.1 0 1) (fun b5 => inb v1 12 (if v2 ≤ (σ.1 (b5 + 6) v1) then (asB (σ.1 0 1) (fun b8 => asB (σ.1 0 1) (fun b9 => asB (σ.1 0 1) (fun b10 => (F_X0_overlaps N b8 (σ.1 (b9 + 4) v1) v2 (σ.1 (b10 + 6) v1) v1 σ).bind (fun q11 => if q11 = 0 then (asB (σ.1 0 1) (fun b13 => grd ((0 : Int) ≤ 0 ∧ (0 : Int) ≤ 0 ∧ (0 : Int) ≤ 12 ∧ (0 : Int) + 12 ≤ 12 ∧ (0 : Int) + 12 ≤ 12) inferInstance ((F_X11_refreshNet N (upI (cpI σ (b13 + 5) 0 93 0 12) 93 v1 v2)).bind (fun q15 => asB (q15.1 0 1) (fun b16 => (F_X11_reliefWithoutClaims N 52 (q15.1 b16 12) 93 q15).bind (fun q17 => some (q17.1, q17.2))))))) else (some ((-2), σ))))))) else (some ((-1), σ))))))))
set_option maxHeartbeats 4000000 in
set_option maxRecDepth 100000 in
theorem c_X11_ifFirst (l : Launch) (g : Geo) (N : Nat) (v1 : Int) (v2 : Int) (σ : Sto) (res : Int × Sto) (h1 : inR v1) (h2 : inR v2) (ok : OK σ) (hF : F_X11_ifFirst N v1 v2 σ = some res) : MtI l g yX11_ifFirst cX11_ifFirst 3 (some .int) rm_X11_ifFirst [vr g 0, vi v1, vi v2] σ res.1 res.2 inR := by
  intro sz
  refine Met.ofAt (own := RX11) (QQ := fun z => QI g z res.1 res.2 inR) (by decide +kernel) (Nat.le_of_ble_eq_true rfl) rfl ?_
  intro p e s m args below meth c C hr hlk
  show At p l e rm_X11_ifFirst s m args below meth c 0 0 g 3 (MQ below (QI g s.heap.size res.1 res.2 inR) args s 0 0 (AA g s.heap.size)) 0 [(0, vr g 0), (1, vi v1), (2, vi v2)] [] σ
  unfold F_X11_ifFirst at hF
  refine at_aload_n (pc := 0) C 0 dX11_ifFirst_0 rfl rfl ?_
  obtain ⟨b1, eb1, kb1, hF⟩ := asB_some hF
  refine at_getd (pc := 1) (jz := 1) (k2 := b1) C fw_11_19 kd0 rfl (Nat.le_of_ble_eq_true rfl) rfl rfl eb1 dX11_ifFirst_1 ?_
  refine at_iload_n (pc := 4) C 1 dX11_ifFirst_4 rfl rfl ?_
  obtain ⟨q2, eq2, hF⟩ := bind_some' hF
  refine at_callV (pc := 5) (ci := 0) C (c_X0_hasPeriod l g N b1 v1 σ q2 kb1 h1 ok eq2) kv_X0_hasPeriod w696 kb1 rfl rfl rfl rfl (Nat.le_of_ble_eq_true rfl) ⟨rfl, rfl, (Nat.le_of_ble_eq_true rfl), (Nat.le_of_ble_eq_true rfl)⟩ dX11_ifFirst_5 (fun tq2 okq2 => ?_)
  refine at_if_eq (pc := 8) (tgt := 28) C (isB.r tq2) dX11_ifFirst_8 rfl (fun c3 => ?_) (fun c3 => ?_)
  · have hF := (if_pos c3).symm.trans hF
    refine at_iconst (pc := 28) C dX11_ifFirst_28 ?_
    obtain rfl := Option.some.inj hF
    exact at_iret (pc := 29) C hr hlk (show inR (-1) from ⟨by decide, by decide⟩) ok dX11_ifFirst_29
  · have hF := (if_neg c3).symm.trans hF
    refine at_iload_n (pc := 11) C 2 dX11_ifFirst_11 rfl rfl ?_
    refine at_if_lt (pc := 12) (tgt := 28) C h2 dX11_ifFirst_12 rfl (fun c4 => ?_) (fun c4 => ?_)
    · have hF := (if_pos c4).symm.trans hF
      refine at_iconst (pc := 28) C dX11_ifFirst_28 ?_
      obtain rfl := Option.some.inj hF
      exact at_iret (pc := 29) C hr hlk (show inR (-1) from ⟨by decide, by decide⟩) ok dX11_ifFirst_29
    · have hF := (if_neg c4).symm.trans hF
      refine at_iload_n (pc := 15) C 2 dX11_ifFirst_15 rfl rfl ?_
      refine at_aload_n (pc := 16) C 0 dX11_ifFirst_16 rfl rfl ?_
      obtain ⟨b5, eb5, kb5, hF⟩ := asB_some hF
      refine at_getd (pc := 17) (jz := 1) (k2 := b5) C fw_11_19 kd0 rfl (Nat.le_of_ble_eq_true rfl) rfl rfl eb5 dX11_ifFirst_17 ?_
      refine at_getr (pc := 20) C 6 fw_11_175 kb5 rfl (Nat.le_of_ble_eq_true rfl) rfl rfl dX11_ifFirst_20 ?_
      refine at_iload_n (pc := 23) C 1 dX11_ifFirst_23 rfl rfl ?_
      obtain ⟨b6, hF⟩ := inb_some hF
      refine at_iaload (pc := 24) C (kf0_5 kb5) b6 dX11_ifFirst_24 ?_
      refine at_icmp_le (pc := 25) (tgt := 30) C h2 (ok (b5 + 6) v1) dX11_ifFirst_25 rfl (fun c7 => ?_) (fun c7 => ?_)
      · have hF := (if_pos c7).symm.trans hF
        refine at_aload_n (pc := 30) C 0 dX11_ifFirst_30 rfl rfl ?_
        obtain ⟨b8, eb8, kb8, hF⟩ := asB_some hF
        refine at_getd (pc := 31) (jz := 1) (k2 := b8) C fw_11_19 kd0 rfl (Nat.le_of_ble_eq_true rfl) rfl rfl eb8 dX11_ifFirst_31 ?_
        refine at_aload_n (pc := 34) C 0 dX11_ifFirst_34 rfl rfl ?_
        obtain ⟨b9, eb9, kb9, hF⟩ := asB_some hF
        refine at_getd (pc := 35) (jz := 1) (k2 := b9) C fw_11_19 kd0 rfl (Nat.le_of_ble_eq_true rfl) rfl rfl eb9 dX11_ifFirst_35 ?_
        refine at_getr (pc := 38) C 4 fw_11_169 kb9 rfl (Nat.le_of_ble_eq_true rfl) rfl rfl dX11_ifFirst_38 ?_
        refine at_iload_n (pc := 41) C 1 dX11_ifFirst_41 rfl rfl ?_
        refine at_iaload (pc := 42) C (kf0_3 kb9) b6 dX11_ifFirst_42 ?_
        refine at_iload_n (pc := 43) C 2 dX11_ifFirst_43 rfl rfl ?_
        refine at_aload_n (pc := 44) C 0 dX11_ifFirst_44 rfl rfl ?_
        obtain ⟨b10, eb10, kb10, hF⟩ := asB_some hF
        refine at_getd (pc := 45) (jz := 1) (k2 := b10) C fw_11_19 kd0 rfl (Nat.le_of_ble_eq_true rfl) rfl rfl eb10 dX11_ifFirst_45 ?_
        refine at_getr (pc := 48) C 6 fw_11_175 kb10 rfl (Nat.le_of_ble_eq_true rfl) rfl rfl dX11_ifFirst_48 ?_
        refine at_iload_n (pc := 51) C 1 dX11_ifFirst_51 rfl rfl ?_
        refine at_iaload (pc := 52) C (kf0_5 kb10) b6 dX11_ifFirst_52 ?_
        refine at_iload_n (pc := 53) C 1 dX11_ifFirst_53 rfl rfl ?_
        obtain ⟨q11, eq11, hF⟩ := bind_some' hF
        refine at_callV (pc := 54) (ci := 0) C (c_X0_overlaps l g N b8 (σ.1 (b9 + 4) v1) v2 (σ.1 (b10 + 6) v1) v1 σ q11 kb8 (ok (b9 + 4) v1) h2 (ok (b10 + 6) v1) h1 ok eq11) kv_X0_overlaps w1161 kb8 rfl rfl rfl rfl (Nat.le_of_ble_eq_true rfl) ⟨rfl, rfl, (Nat.le_of_ble_eq_true rfl), (Nat.le_of_ble_eq_true rfl)⟩ dX11_ifFirst_54 (fun tq11 okq11 => ?_)
        refine at_if_eq (pc := 57) (tgt := 63) C (isB.r tq11) dX11_ifFirst_57 rfl (fun c12 => ?_) (fun c12 => ?_)
        · have hF := (if_pos c12).symm.trans hF
          refine at_aload_n (pc := 63) C 0 dX11_ifFirst_63 rfl rfl ?_
          obtain ⟨b13, eb13, kb13, hF⟩ := asB_some hF
          refine at_getd (pc := 64) (jz := 1) (k2 := b13) C fw_11_19 kd0 rfl (Nat.le_of_ble_eq_true rfl) rfl rfl eb13 dX11_ifFirst_64 ?_
          refine at_getr (pc := 67) C 5 fw_11_172 kb13 rfl (Nat.le_of_ble_eq_true rfl) rfl rfl dX11_ifFirst_67 ?_
          refine at_iconst (pc := 70) C dX11_ifFirst_70 ?_
          refine at_aload_n (pc := 71) C 0 dX11_ifFirst_71 rfl rfl ?_
          refine at_getr (pc := 72) (k' := 93) C 93 fw_11_94 kd0 rfl (Nat.le_of_ble_eq_true rfl) rfl rfl dX11_ifFirst_72 ?_
          refine at_iconst (pc := 75) C dX11_ifFirst_75 ?_
          refine at_bipush (pc := 76) C dX11_ifFirst_76 (by decide) ?_
          obtain ⟨y14, hF⟩ := grd_some hF
          refine at_copy (pc := 78) C kc w1162 (kf0_4 kb13) kd93 y14 ⟨(Nat.le_of_ble_eq_true rfl), (Nat.le_of_ble_eq_true rfl)⟩ dX11_ifFirst_78 ?_
          refine at_aload_n (pc := 81) C 0 dX11_ifFirst_81 rfl rfl ?_
          refine at_getr (pc := 82) (k' := 93) C 93 fw_11_94 kd0 rfl (Nat.le_of_ble_eq_true rfl) rfl rfl dX11_ifFirst_82 ?_
          refine at_iload_n (pc := 85) C 1 dX11_ifFirst_85 rfl rfl ?_
          refine at_iload_n (pc := 86) C 2 dX11_ifFirst_86 rfl rfl ?_
          refine at_iastore (pc := 87) C kd93 b6 dX11_ifFirst_87 ?_
          refine at_aload_n (pc := 88) C 0 dX11_ifFirst_88 rfl rfl ?_
          obtain ⟨q15, eq15, hF⟩ := bind_some' hF
          refine at_callVv (pc := 89) (ci := 11) C (c_X11_refreshNet l g N  (upI (cpI σ (b13 + 5) 0 93 0 12) 93 v1 v2) q15  (OK_up (k := 93) (j := v1) (OK_cp (ks := (b13 + 5)) (sp := 0) (kd := 93) (dp := 0) (n := 12) ok) h2) eq15) kv_X11_refreshNet w791 kd0 rfl rfl rfl rfl (Nat.le_of_ble_eq_true rfl) ⟨rfl, rfl, (Nat.le_of_ble_eq_true rfl), (Nat.le_of_ble_eq_true rfl)⟩ dX11_ifFirst_89 (fun okq15 => ?_)
          refine at_aload_n (pc := 92) C 0 dX11_ifFirst_92 rfl rfl ?_
          refine at_aload_n (pc := 93) C 0 dX11_ifFirst_93 rfl rfl ?_
          refine at_getr (pc := 94) (k' := 52) C 52 fw_11_57 kd0 rfl (Nat.le_of_ble_eq_true rfl) rfl rfl dX11_ifFirst_94 ?_
          refine at_aload_n (pc := 97) C 0 dX11_ifFirst_97 rfl rfl ?_
          obtain ⟨b16, eb16, kb16, hF⟩ := asB_some hF
          refine at_getd (pc := 98) (jz := 1) (k2 := b16) C fw_11_19 kd0 rfl (Nat.le_of_ble_eq_true rfl) rfl rfl eb16 dX11_ifFirst_98 ?_
          refine at_geti (pc := 101) (jz := 12) C fw_11_428 kb16 rfl (Nat.le_of_ble_eq_true rfl) rfl rfl dX11_ifFirst_101 ?_
          refine at_aload_n (pc := 104) C 0 dX11_ifFirst_104 rfl rfl ?_
          refine at_getr (pc := 105) (k' := 93) C 93 fw_11_94 kd0 rfl (Nat.le_of_ble_eq_true rfl) rfl rfl dX11_ifFirst_105 ?_
          obtain ⟨q17, eq17, hF⟩ := bind_some' hF
          refine at_callV (pc := 108) (ci := 11) C (c_X11_reliefWithoutClaims l g N 52 (q15.1 b16 12) 93 q15 q17 kd52 (okq15 b16 12) kd93 okq15 eq17) kv_X11_reliefWithoutClaims w1140 kd0 rfl rfl rfl rfl (Nat.le_of_ble_eq_true rfl) ⟨rfl, rfl, (Nat.le_of_ble_eq_true rfl), (Nat.le_of_ble_eq_true rfl)⟩ dX11_ifFirst_108 (fun tq17 okq17 => ?_)
          obtain rfl := Option.some.inj hF
          exact at_iret (pc := 111) C hr hlk tq17 okq17 dX11_ifFirst_111
        · have hF := (if_neg c12).symm.trans hF
          refine at_bipush (pc := 60) C dX11_ifFirst_60 (by decide) ?_
          obtain rfl := Option.some.inj hF
          exact at_iret (pc := 62) C hr hlk (show inR (-2) from ⟨by decide, by decide⟩) ok dX11_ifFirst_62
      · have hF := (if_neg c7).symm.trans hF
        refine at_iconst (pc := 28) C dX11_ifFirst_28 ?_
        obtain rfl := Option.some.inj hF
        exact at_iret (pc := 29) C hr hlk (show inR (-1) from ⟨by decide, by decide⟩) ok dX11_ifFirst_29
abbrev rm_X11_nextNumber : Room := { frames := 0, cells := 0, slots := 0, locals := 0 }
def F_X11_nextNumber (N : Nat) (v0 : Int) (σ : Sto) : Option (Int) :=
  some (jand (ja (jm v0 1103515245) 12345) 2147483647)
set_option maxHeartbeats 4000000 in
set_option maxRecDepth 100000 in
theorem c_X11_nextNumber (l : Launch) (g : Geo) (N : Nat) (v0 : Int) (σ : Sto) (res : Int) (h0 : inR v0) (ok : OK σ) (hF : F_X11_nextNumber N v0 σ = some res) : MtI l g yX11_nextNumber cX11_nextNumber 1 (some .int) rm_X11_nextNumber [vi v0] σ res σ inR := by
  intro sz
  refine Met.ofAt (own := RX11) (QQ := fun z => QI g z res σ inR) (by decide +kernel) (Nat.le_of_ble_eq_true rfl) rfl ?_
  intro p e s m args below meth c C hr hlk
  show At p l e rm_X11_nextNumber s m args below meth c 0 0 g 1 (MQ below (QI g s.heap.size res σ inR) args s 0 0 (AA g s.heap.size)) 0 [(0, vi v0)] [] σ
  unfold F_X11_nextNumber at hF
  refine at_iload_n (pc := 0) C 0 dX11_nextNumber_0 rfl rfl ?_
  refine at_ldc_w (pc := 1) (n := 1103515245) C dX11_nextNumber_1 w1175 ?_
  refine at_imul (pc := 4) C dX11_nextNumber_4 ?_
  refine at_sipush (pc := 5) C dX11_nextNumber_5 (by decide) ?_
  refine at_iadd (pc := 8) C dX11_nextNumber_8 ?_
  refine at_ldc_w (pc := 9) (n := 2147483647) C dX11_nextNumber_9 w1176 ?_
  refine at_iand (pc := 12) C dX11_nextNumber_12 ?_
  obtain rfl := Option.some.inj hF
  exact at_iret (pc := 13) C hr hlk (jand_R (ja (jm v0 1103515245) 12345) 2147483647) ok dX11_nextNumber_13
abbrev rm_X11_drawn : Room := { frames := 0, cells := 0, slots := 0, locals := 0 }
def F_X11_drawn (N : Nat) (v0 : Int) (v1 : Int) (σ : Sto) : Option (Int) :=
  if 1 ≤ v1 then (grd (¬ v1 = 0) inferInstance (some (jrem (jshr v0 16) v1))) else (some 0)
set_option maxHeartbeats 4000000 in
set_option maxRecDepth 100000 in
theorem c_X11_drawn (l : Launch) (g : Geo) (N : Nat) (v0 : Int) (v1 : Int) (σ : Sto) (res : Int) (h0 : inR v0) (h1 : inR v1) (ok : OK σ) (hF : F_X11_drawn N v0 v1 σ = some res) : MtI l g yX11_drawn cX11_drawn 2 (some .int) rm_X11_drawn [vi v0, vi v1] σ res σ inR := by
  intro sz
  refine Met.ofAt (own := RX11) (QQ := fun z => QI g z res σ inR) (by decide +kernel) (Nat.le_of_ble_eq_true rfl) rfl ?_
  intro p e s m args below meth c C hr hlk
  show At p l e rm_X11_drawn s m args below meth c 0 0 g 2 (MQ below (QI g s.heap.size res σ inR) args s 0 0 (AA g s.heap.size)) 0 [(0, vi v0), (1, vi v1)] [] σ
  unfold F_X11_drawn at hF
  refine at_iload_n (pc := 0) C 1 dX11_drawn_0 rfl rfl ?_
  refine at_iconst (pc := 1) C dX11_drawn_1 ?_
  refine at_icmp_ge (pc := 2) (tgt := 9) C h1 (isB.r (Or.inr rfl)) dX11_drawn_2 rfl (fun c1 => ?_) (fun c1 => ?_)
  · have hF := (if_pos c1).symm.trans hF
    refine at_iload_n (pc := 9) C 0 dX11_drawn_9 rfl rfl ?_
    refine at_bipush (pc := 10) C dX11_drawn_10 (by decide) ?_
    refine at_ishr (pc := 12) C dX11_drawn_12 ?_
    refine at_iload_n (pc := 13) C 1 dX11_drawn_13 rfl rfl ?_
    obtain ⟨z2, hF⟩ := grd_some hF
    refine at_irem (pc := 14) C dX11_drawn_14 h1 z2 ?_
    obtain rfl := Option.some.inj hF
    exact at_iret (pc := 15) C hr hlk (jrem_R (jshr v0 16) v1) ok dX11_drawn_15
  · have hF := (if_neg c1).symm.trans hF
    refine at_iconst (pc := 5) C dX11_drawn_5 ?_
    refine at_goto (pc := 6) (tgt := 15) C dX11_drawn_6 rfl ?_
    obtain rfl := Option.some.inj hF
    exact at_iret (pc := 15) C hr hlk (isB.r (Or.inl rfl)) ok dX11_drawn_15
abbrev rm_X11_chance : Room := { frames := 7, cells := 0, slots := 0, locals := 177 }
def F_X11_chance_J170 (N : Nat)  (v3 : Int) (v5 : Int) (σ : Sto) : Option (Int × Sto) :=
  if 2 ≤ v3 then ((F_X11_refreshNet N σ).bind (fun q9 => asB (q9.1 0 1) (fun b10 => (F_X1_load N 83 b10 55 73 0 q9).bind (fun q11 => (F_X1_run N 83 q11).bind (fun q12 => some ((q12.1 83 13), q12)))))) else (if v3 = 0 then (some ((js (σ.1 73 3) (σ.1 29 3)), σ)) else (some (v5, σ)))
def F_X11_chance_J164 (N : Nat) (nx73 : (Int × Int × Int × Sto) → Option (Int × Sto)) (v2 : Int) (v3 : Int) (v4 : Int) (v5 : Int) (v6 : Int) (σ : Sto) : Option (Int × Sto) :=
  nx73 (v4, v5, (ja v6 1), σ)
def F_X11_chance_B73 (N : Nat) (nx73 : (Int × Int × Int × Sto) → Option (Int × Sto)) (v2 : Int) (v3 : Int) (v4 : Int) (v5 : Int) (v6 : Int) (σ : Sto) : Option (Int × Sto) :=
  if v2 ≤ v6 then (F_X11_chance_J170 N  v3 v5 σ) else ((F_X11_nextNumber N v4 σ).bind (fun q15 => asB (σ.1 0 1) (fun b16 => (F_X11_drawn N q15 (σ.1 b16 9) σ).bind (fun q17 => (F_X11_nextNumber N q15 σ).bind (fun q18 => asB (σ.1 0 1) (fun b19 => (F_X11_drawn N q18 (σ.1 b19 9) σ).bind (fun q20 => (F_X11_nextNumber N q18 σ).bind (fun q21 => (F_X11_drawn N q21 1000 σ).bind (fun q22 => (F_X11_enter N 73 q17 q20 (ja q22 1) σ).bind (fun q23 => if q23.1 < 0 then (F_X11_chance_J164 N nx73 v2 v3 q21 v5 v6 q23.2) else (F_X11_chance_J164 N nx73 v2 v3 q21 (ja v5 (ja q22 1)) v6 q23.2)))))))))))
def F_X11_chance_J65 (N : Nat)  (v2 : Int) (v3 : Int) (t0 : Int) (σ : Sto) : Option (Int × Sto) :=
  loopK (fun q nx73 => F_X11_chance_B73 N  nx73 v2 v3 q.1 q.2.1 q.2.2.1 q.2.2.2) N (t0, 0, 0, σ)
def F_X11_chance (N : Nat) (v1 : Int) (v2 : Int) (v3 : Int) (σ : Sto) : Option (Int × Sto) :=
  if v1 < (-1) then (some ((-1), σ)) else (if v2 < 1 then (some ((-1), σ)) else (if 60 < v2 then (some ((-1), σ)) else (if v3 < 0 then (some ((-1), σ)) else (if 2 < v3 then (some ((-1), σ)) else (asB (σ.1 0 1) (fun b6 => if 1 ≤ (σ.1 b6 9) then ((F_X5_copy N 73 29 σ).bind (fun q25 => if v1 = (-1) then (asB (q25.1 0 1) (fun b27 => F_X11_chance_J65 N  v2 v3 (q25.1 b27 13) q25)) else (F_X11_chance_J65 N  v2 v3 v1 q25))) else (some ((-1), σ))))))))
set_option maxHeartbeats 4000000 in
set_option maxRecDepth 100000 in
theorem c_X11_chance (l : Launch) (g : Geo) (N : Nat) (v1 : Int) (v2 : Int) (v3 : Int) (σ : Sto) (res : Int × Sto) (h1 : inR v1) (h2 : inR v2) (h3 : inR v3) (ok : OK σ) (hF : F_X11_chance N v1 v2 v3 σ = some res) : MtI l g yX11_chance cX11_chance 10 (some .int) rm_X11_chance [vr g 0, vi v1, vi v2, vi v3] σ res.1 res.2 inR := by
  intro sz
  refine Met.ofAt (own := RX11) (QQ := fun z => QI g z res.1 res.2 inR) (by decide +kernel) (Nat.le_of_ble_eq_true rfl) rfl ?_
  intro p e s m args below meth c C hr hlk
  show At p l e rm_X11_chance s m args below meth c 0 0 g 10 (MQ below (QI g s.heap.size res.1 res.2 inR) args s 0 0 (AA g s.heap.size)) 0 [(0, vr g 0), (1, vi v1), (2, vi v2), (3, vi v3)] [] σ
  unfold F_X11_chance at hF
  refine at_iload_n (pc := 0) C 1 dX11_chance_0 rfl rfl ?_
  refine at_iconst (pc := 1) C dX11_chance_1 ?_
  refine at_icmp_lt (pc := 2) (tgt := 36) C h1 (show inR (-1) from ⟨by decide, by decide⟩) dX11_chance_2 rfl (fun c1 => ?_) (fun c1 => ?_)
  · have hF := (if_pos c1).symm.trans hF
    refine at_iconst (pc := 36) C dX11_chance_36 ?_
    obtain rfl := Option.some.inj hF
    exact at_iret (pc := 37) C hr hlk (show inR (-1) from ⟨by decide, by decide⟩) ok dX11_chance_37
  · have hF := (if_neg c1).symm.trans hF
    refine at_iload_n (pc := 5) C 2 dX11_chance_5 rfl rfl ?_
    refine at_iconst (pc := 6) C dX11_chance_6 ?_
    refine at_icmp_lt (pc := 7) (tgt := 36) C h2 (isB.r (Or.inr rfl)) dX11_chance_7 rfl (fun c2 => ?_) (fun c2 => ?_)
    · have hF := (if_pos c2).symm.trans hF
      refine at_iconst (pc := 36) C dX11_chance_36 ?_
      obtain rfl := Option.some.inj hF
      exact at_iret (pc := 37) C hr hlk (show inR (-1) from ⟨by decide, by decide⟩) ok dX11_chance_37
    · have hF := (if_neg c2).symm.trans hF
      refine at_iload_n (pc := 10) C 2 dX11_chance_10 rfl rfl ?_
      refine at_bipush (pc := 11) C dX11_chance_11 (by decide) ?_
      refine at_icmp_gt (pc := 13) (tgt := 36) C h2 (show inR 60 from ⟨by decide, by decide⟩) dX11_chance_13 rfl (fun c3 => ?_) (fun c3 => ?_)
      · have hF := (if_pos c3).symm.trans hF
        refine at_iconst (pc := 36) C dX11_chance_36 ?_
        obtain rfl := Option.some.inj hF
        exact at_iret (pc := 37) C hr hlk (show inR (-1) from ⟨by decide, by decide⟩) ok dX11_chance_37
      · have hF := (if_neg c3).symm.trans hF
        refine at_iload_n (pc := 16) C 3 dX11_chance_16 rfl rfl ?_
        refine at_if_lt (pc := 17) (tgt := 36) C h3 dX11_chance_17 rfl (fun c4 => ?_) (fun c4 => ?_)
        · have hF := (if_pos c4).symm.trans hF
          refine at_iconst (pc := 36) C dX11_chance_36 ?_
          obtain rfl := Option.some.inj hF
          exact at_iret (pc := 37) C hr hlk (show inR (-1) from ⟨by decide, by decide⟩) ok dX11_chance_37
        · have hF := (if_neg c4).symm.trans hF
          refine at_iload_n (pc := 20) C 3 dX11_chance_20 rfl rfl ?_
          refine at_iconst (pc := 21) C dX11_chance_21 ?_
          refine at_icmp_gt (pc := 22) (tgt := 36) C h3 (show inR 2 from ⟨by decide, by decide⟩) dX11_chance_22 rfl (fun c5 => ?_) (fun c5 => ?_)
          · have hF := (if_pos c5).symm.trans hF
            refine at_iconst (pc := 36) C dX11_chance_36 ?_
            obtain rfl := Option.some.inj hF
            exact at_iret (pc := 37) C hr hlk (show inR (-1) from ⟨by decide, by decide⟩) ok dX11_chance_37
          · have hF := (if_neg c5).symm.trans hF
            refine at_aload_n (pc := 25) C 0 dX11_chance_25 rfl rfl ?_
            obtain ⟨b6, eb6, kb6, hF⟩ := asB_some hF
            refine at_getd (pc := 26) (jz := 1) (k2 := b6) C fw_11_19 kd0 rfl (Nat.le_of_ble_eq_true rfl) rfl rfl eb6 dX11_chance_26 ?_
            refine at_geti (pc := 29) (jz := 9) C fw_11_324 kb6 rfl (Nat.le_of_ble_eq_true rfl) rfl rfl dX11_chance_29 ?_
            refine at_iconst (pc := 32) C dX11_chance_32 ?_
            refine at_icmp_ge (pc := 33) (tgt := 38) C (ok b6 9) (isB.r (Or.inr rfl)) dX11_chance_33 rfl (fun c7 => ?_) (fun c7 => ?_)
            · have hF := (if_pos c7).symm.trans hF
              have J65 : ∀ (v2 : Int) (v3 : Int) (t0 : Int) (σ : Sto), inR v2 → inR v3 → inR t0 → OK σ → F_X11_chance_J65 N  v2 v3 t0 σ = some res → At p l e rm_X11_chance s m args below meth c 0 0 g 10 (MQ below (QI g s.heap.size res.1 res.2 inR) args s 0 0 (AA g s.heap.size)) 65 [(0, vr g 0), (2, vi v2), (3, vi v3)] [vi t0] σ := by
                intro v2 v3 t0 σ h2 h3 ht0 ok hF
                unfold F_X11_chance_J65 at hF
                refine at_istore (pc := 65) (lv' := [(4, vi t0), (0, vr g 0), (2, vi v2), (3, vi v3)]) C dX11_chance_65 (Nat.le_of_ble_eq_true rfl) rfl ?_
                refine at_iconst (pc := 67) C dX11_chance_67 ?_
                refine at_istore (pc := 68) (lv' := [(5, vi 0), (4, vi t0), (0, vr g 0), (2, vi v2), (3, vi v3)]) C dX11_chance_68 (Nat.le_of_ble_eq_true rfl) rfl ?_
                refine at_iconst (pc := 70) C dX11_chance_70 ?_
                refine at_istore (pc := 71) (lv' := [(6, vi 0), (5, vi 0), (4, vi t0), (0, vr g 0), (2, vi v2), (3, vi v3)]) C dX11_chance_71 (Nat.le_of_ble_eq_true rfl) rfl ?_
                have L73 : ∀ (v2 : Int) (v3 : Int) (v4 : Int) (v5 : Int) (v6 : Int) (σ : Sto), inR v2 → inR v3 → inR v4 → inR v5 → inR v6 → OK σ → loopK (fun q nx73 => F_X11_chance_B73 N  nx73 v2 v3 q.1 q.2.1 q.2.2.1 q.2.2.2) N (v4, v5, v6, σ) = some res → At p l e rm_X11_chance s m args below meth c 0 0 g 10 (MQ below (QI g s.heap.size res.1 res.2 inR) args s 0 0 (AA g s.heap.size)) 73 [(0, vr g 0), (2, vi v2), (3, vi v3), (4, vi v4), (5, vi v5), (6, vi v6)] [] σ := by
                  intro v2 v3 v4 v5 v6 σ h2 h3 h4 h5 h6 ok hF
                  refine loopK_ind (res := res) (P := fun (q : Int × Int × Int × Sto) => inR q.1 → inR q.2.1 → inR q.2.2.1 → OK q.2.2.2 → At p l e rm_X11_chance s m args below meth c 0 0 g 10 (MQ below (QI g s.heap.size res.1 res.2 inR) args s 0 0 (AA g s.heap.size)) 73 [(0, vr g 0), (2, vi v2), (3, vi v3), (4, vi q.1), (5, vi q.2.1), (6, vi q.2.2.1)] [] q.2.2.2) ?_ N _ hF h4 h5 h6 ok
                  intro nx73 q ih73 hF
                  obtain ⟨v4, v5, v6, σ⟩ := q
                  intro h4 h5 h6 ok
                  have hF : F_X11_chance_B73 N  nx73 v2 v3 v4 v5 v6 σ = some res := hF
                  unfold F_X11_chance_B73 at hF
                  have J170 : ∀ (v3 : Int) (v5 : Int) (σ : Sto), inR v3 → inR v5 → OK σ → F_X11_chance_J170 N  v3 v5 σ = some res → At p l e rm_X11_chance s m args below meth c 0 0 g 10 (MQ below (QI g s.heap.size res.1 res.2 inR) args s 0 0 (AA g s.heap.size)) 170 [(0, vr g 0), (3, vi v3), (5, vi v5)] [] σ := by
                    intro v3 v5 σ h3 h5 ok hF
                    unfold F_X11_chance_J170 at hF
                    refine at_iload_n (pc := 170) C 1 dX11_chance_170 rfl rfl ?_
                    refine at_iconst (pc := 171) C dX11_chance_171 ?_
                    refine at_icmp_ge (pc := 172) (tgt := 200) C h3 (show inR 2 from ⟨by decide, by decide⟩) dX11_chance_172 rfl (fun c8 => ?_) (fun c8 => ?_)
                    · have hF := (if_pos c8).symm.trans hF
                      refine at_aload_n (pc := 200) C 0 dX11_chance_200 rfl rfl ?_
                      obtain ⟨q9, eq9, hF⟩ := bind_some' hF
                      refine at_callVv (pc := 201) (ci := 11) C (c_X11_refreshNet l g N  σ q9  ok eq9) kv_X11_refreshNet w791 kd0 rfl rfl rfl rfl (Nat.le_of_ble_eq_true rfl) ⟨rfl, rfl, (Nat.le_of_ble_eq_true rfl), (Nat.le_of_ble_eq_true rfl)⟩ dX11_chance_201 (fun okq9 => ?_)
                      refine at_aload_n (pc := 204) C 0 dX11_chance_204 rfl rfl ?_
                      refine at_getr (pc := 205) (k' := 83) C 83 fw_11_91 kd0 rfl (Nat.le_of_ble_eq_true rfl) rfl rfl dX11_chance_205 ?_
                      refine at_aload_n (pc := 208) C 0 dX11_chance_208 rfl rfl ?_
                      obtain ⟨b10, eb10, kb10, hF⟩ := asB_some hF
                      refine at_getd (pc := 209) (jz := 1) (k2 := b10) C fw_11_19 kd0 rfl (Nat.le_of_ble_eq_true rfl) rfl rfl eb10 dX11_chance_209 ?_
                      refine at_aload_n (pc := 212) C 0 dX11_chance_212 rfl rfl ?_
                      refine at_getr (pc := 213) (k' := 55) C 55 fw_11_64 kd0 rfl (Nat.le_of_ble_eq_true rfl) rfl rfl dX11_chance_213 ?_
                      refine at_aload_n (pc := 216) C 0 dX11_chance_216 rfl rfl ?_
                      refine at_getr (pc := 217) (k' := 73) C 73 fw_11_82 kd0 rfl (Nat.le_of_ble_eq_true rfl) rfl rfl dX11_chance_217 ?_
                      refine at_iconst (pc := 220) C dX11_chance_220 ?_
                      obtain ⟨q11, eq11, hF⟩ := bind_some' hF
                      refine at_callVv (pc := 221) (ci := 1) C (c_X1_load l g N 83 b10 55 73 0 q9 q11 kd83 kb10 kd55 kd73 (isB.r (Or.inl rfl)) okq9 eq11) kv_X1_load w949 kd83 rfl rfl rfl rfl (Nat.le_of_ble_eq_true rfl) ⟨rfl, rfl, (Nat.le_of_ble_eq_true rfl), (Nat.le_of_ble_eq_true rfl)⟩ dX11_chance_221 (fun okq11 => ?_)
                      refine at_aload_n (pc := 224) C 0 dX11_chance_224 rfl rfl ?_
                      refine at_getr (pc := 225) (k' := 83) C 83 fw_11_91 kd0 rfl (Nat.le_of_ble_eq_true rfl) rfl rfl dX11_chance_225 ?_
                      obtain ⟨q12, eq12, hF⟩ := bind_some' hF
                      refine at_callVv (pc := 228) (ci := 1) C (c_X1_run l g N 83 q11 q12 kd83 okq11 eq12) kv_X1_run w959 kd83 rfl rfl rfl rfl (Nat.le_of_ble_eq_true rfl) ⟨rfl, rfl, (Nat.le_of_ble_eq_true rfl), (Nat.le_of_ble_eq_true rfl)⟩ dX11_chance_228 (fun okq12 => ?_)
                      refine at_aload_n (pc := 231) C 0 dX11_chance_231 rfl rfl ?_
                      refine at_getr (pc := 232) (k' := 83) C 83 fw_11_91 kd0 rfl (Nat.le_of_ble_eq_true rfl) rfl rfl dX11_chance_232 ?_
                      refine at_geti (pc := 235) (jz := 13) C fw_11_336 kd83 rfl (Nat.le_of_ble_eq_true rfl) rfl rfl dX11_chance_235 ?_
                      obtain rfl := Option.some.inj hF
                      exact at_iret (pc := 238) C hr hlk (okq12 83 13) okq12 dX11_chance_238
                    · have hF := (if_neg c8).symm.trans hF
                      refine at_iload_n (pc := 175) C 1 dX11_chance_175 rfl rfl ?_
                      refine at_if_ne (pc := 176) (tgt := 197) C h3 dX11_chance_176 rfl (fun c13 => ?_) (fun c13 => ?_)
                      · have hF := (if_neg c13).symm.trans hF
                        refine at_iload (pc := 197) C 2 dX11_chance_197 rfl ?_
                        obtain rfl := Option.some.inj hF
                        exact at_iret (pc := 199) C hr hlk h5 ok dX11_chance_199
                      · have hF := (if_pos c13).symm.trans hF
                        refine at_aload_n (pc := 179) C 0 dX11_chance_179 rfl rfl ?_
                        refine at_getr (pc := 180) (k' := 73) C 73 fw_11_82 kd0 rfl (Nat.le_of_ble_eq_true rfl) rfl rfl dX11_chance_180 ?_
                        refine at_geti (pc := 183) (jz := 3) C fw_11_273 kd73 rfl (Nat.le_of_ble_eq_true rfl) rfl rfl dX11_chance_183 ?_
                        refine at_aload_n (pc := 186) C 0 dX11_chance_186 rfl rfl ?_
                        refine at_getr (pc := 187) (k' := 29) C 29 fw_11_29 kd0 rfl (Nat.le_of_ble_eq_true rfl) rfl rfl dX11_chance_187 ?_
                        refine at_geti (pc := 190) (jz := 3) C fw_11_273 kd29 rfl (Nat.le_of_ble_eq_true rfl) rfl rfl dX11_chance_190 ?_
                        refine at_isub (pc := 193) C dX11_chance_193 ?_
                        refine at_goto (pc := 194) (tgt := 199) C dX11_chance_194 rfl ?_
                        obtain rfl := Option.some.inj hF
                        exact at_iret (pc := 199) C hr hlk (js_R (σ.1 73 3) (σ.1 29 3)) ok dX11_chance_199
                  refine at_iload (pc := 73) C 5 dX11_chance_73 rfl ?_
                  refine at_iload_n (pc := 75) C 1 dX11_chance_75 rfl rfl ?_
                  refine at_icmp_ge (pc := 76) (tgt := 170) C h6 h2 dX11_chance_76 rfl (fun c14 => ?_) (fun c14 => ?_)
                  · have hF := (if_pos c14).symm.trans hF
                    refine at_sub (lv' := [(0, vr g 0), (3, vi v3), (5, vi v5)]) [0, 2, 4] rfl ?_
                    exact J170 v3 v5 σ h3 h5 ok hF
                  · have hF := (if_neg c14).symm.trans hF
                    have J164 : ∀ (v4 : Int) (v5 : Int) (v6 : Int) (σ : Sto), inR v4 → inR v5 → inR v6 → OK σ → F_X11_chance_J164 N nx73 v2 v3 v4 v5 v6 σ = some res → At p l e rm_X11_chance s m args below meth c 0 0 g 10 (MQ below (QI g s.heap.size res.1 res.2 inR) args s 0 0 (AA g s.heap.size)) 164 [(0, vr g 0), (2, vi v2), (3, vi v3), (4, vi v4), (5, vi v5), (6, vi v6)] [] σ := by
                      intro v4 v5 v6 σ h4 h5 h6 ok hF
                      unfold F_X11_chance_J164 at hF
                      refine at_iinc (pc := 164) (lv' := [(6, vi (ja v6 1)), (0, vr g 0), (2, vi v2), (3, vi v3), (4, vi v4), (5, vi v5)]) C 5 dX11_chance_164 rfl (Nat.le_of_ble_eq_true rfl) rfl ?_
                      refine at_goto (pc := 167) (tgt := 73) C dX11_chance_167 rfl ?_
                      refine at_sub (lv' := [(0, vr g 0), (2, vi v2), (3, vi v3), (4, vi v4), (5, vi v5), (6, vi (ja v6 1))]) [1, 2, 3, 4, 5, 0] rfl ?_
                      exact ih73 _ hF h4 h5 (ja_R v6 1) ok
                    refine at_iload (pc := 79) C 3 dX11_chance_79 rfl ?_
                    obtain ⟨q15, eq15, hF⟩ := bind_some' hF
                    refine at_callS (pc := 81) C (c_X11_nextNumber l g N v4 σ q15 h4 ok eq15) ks_X11_nextNumber w1172 rfl rfl (Nat.le_of_ble_eq_true rfl) ⟨rfl, rfl, (Nat.le_of_ble_eq_true rfl), (Nat.le_of_ble_eq_true rfl)⟩ dX11_chance_81 (fun tq15 okq15 => ?_)
                    refine at_istore (pc := 84) (lv' := [(4, vi q15), (0, vr g 0), (2, vi v2), (3, vi v3), (5, vi v5), (6, vi v6)]) C dX11_chance_84 (Nat.le_of_ble_eq_true rfl) rfl ?_
                    refine at_iload (pc := 86) C 0 dX11_chance_86 rfl ?_
                    refine at_aload_n (pc := 88) C 1 dX11_chance_88 rfl rfl ?_
                    obtain ⟨b16, eb16, kb16, hF⟩ := asB_some hF
                    refine at_getd (pc := 89) (jz := 1) (k2 := b16) C fw_11_19 kd0 rfl (Nat.le_of_ble_eq_true rfl) rfl rfl eb16 dX11_chance_89 ?_
                    refine at_geti (pc := 92) (jz := 9) C fw_11_324 kb16 rfl (Nat.le_of_ble_eq_true rfl) rfl rfl dX11_chance_92 ?_
                    obtain ⟨q17, eq17, hF⟩ := bind_some' hF
                    refine at_callS (pc := 95) C (c_X11_drawn l g N q15 (σ.1 b16 9) σ q17 tq15 (ok b16 9) ok eq17) ks_X11_drawn w1177 rfl rfl (Nat.le_of_ble_eq_true rfl) ⟨rfl, rfl, (Nat.le_of_ble_eq_true rfl), (Nat.le_of_ble_eq_true rfl)⟩ dX11_chance_95 (fun tq17 okq17 => ?_)
                    refine at_istore (pc := 98) (lv' := [(7, vi q17), (4, vi q15), (0, vr g 0), (2, vi v2), (3, vi v3), (5, vi v5), (6, vi v6)]) C dX11_chance_98 (Nat.le_of_ble_eq_true rfl) rfl ?_
                    refine at_iload (pc := 100) C 1 dX11_chance_100 rfl ?_
                    obtain ⟨q18, eq18, hF⟩ := bind_some' hF
                    refine at_callS (pc := 102) C (c_X11_nextNumber l g N q15 σ q18 tq15 ok eq18) ks_X11_nextNumber w1172 rfl rfl (Nat.le_of_ble_eq_true rfl) ⟨rfl, rfl, (Nat.le_of_ble_eq_true rfl), (Nat.le_of_ble_eq_true rfl)⟩ dX11_chance_102 (fun tq18 okq18 => ?_)
                    refine at_istore (pc := 105) (lv' := [(4, vi q18), (7, vi q17), (0, vr g 0), (2, vi v2), (3, vi v3), (5, vi v5), (6, vi v6)]) C dX11_chance_105 (Nat.le_of_ble_eq_true rfl) rfl ?_
                    refine at_iload (pc := 107) C 0 dX11_chance_107 rfl ?_
                    refine at_aload_n (pc := 109) C 2 dX11_chance_109 rfl rfl ?_
                    obtain ⟨b19, eb19, kb19, hF⟩ := asB_some hF
                    refine at_getd (pc := 110) (jz := 1) (k2 := b19) C fw_11_19 kd0 rfl (Nat.le_of_ble_eq_true rfl) rfl rfl eb19 dX11_chance_110 ?_
                    refine at_geti (pc := 113) (jz := 9) C fw_11_324 kb19 rfl (Nat.le_of_ble_eq_true rfl) rfl rfl dX11_chance_113 ?_
                    obtain ⟨q20, eq20, hF⟩ := bind_some' hF
                    refine at_callS (pc := 116) C (c_X11_drawn l g N q18 (σ.1 b19 9) σ q20 tq18 (ok b19 9) ok eq20) ks_X11_drawn w1177 rfl rfl (Nat.le_of_ble_eq_true rfl) ⟨rfl, rfl, (Nat.le_of_ble_eq_true rfl), (Nat.le_of_ble_eq_true rfl)⟩ dX11_chance_116 (fun tq20 okq20 => ?_)
                    refine at_istore (pc := 119) (lv' := [(8, vi q20), (4, vi q18), (7, vi q17), (0, vr g 0), (2, vi v2), (3, vi v3), (5, vi v5), (6, vi v6)]) C dX11_chance_119 (Nat.le_of_ble_eq_true rfl) rfl ?_
                    refine at_iload (pc := 121) C 1 dX11_chance_121 rfl ?_
                    obtain ⟨q21, eq21, hF⟩ := bind_some' hF
                    refine at_callS (pc := 123) C (c_X11_nextNumber l g N q18 σ q21 tq18 ok eq21) ks_X11_nextNumber w1172 rfl rfl (Nat.le_of_ble_eq_true rfl) ⟨rfl, rfl, (Nat.le_of_ble_eq_true rfl), (Nat.le_of_ble_eq_true rfl)⟩ dX11_chance_123 (fun tq21 okq21 => ?_)
                    refine at_istore (pc := 126) (lv' := [(4, vi q21), (8, vi q20), (7, vi q17), (0, vr g 0), (2, vi v2), (3, vi v3), (5, vi v5), (6, vi v6)]) C dX11_chance_126 (Nat.le_of_ble_eq_true rfl) rfl ?_
                    refine at_iload (pc := 128) C 0 dX11_chance_128 rfl ?_
                    refine at_sipush (pc := 130) C dX11_chance_130 (by decide) ?_
                    obtain ⟨q22, eq22, hF⟩ := bind_some' hF
                    refine at_callS (pc := 133) C (c_X11_drawn l g N q21 1000 σ q22 tq21 (show inR 1000 from ⟨by decide, by decide⟩) ok eq22) ks_X11_drawn w1177 rfl rfl (Nat.le_of_ble_eq_true rfl) ⟨rfl, rfl, (Nat.le_of_ble_eq_true rfl), (Nat.le_of_ble_eq_true rfl)⟩ dX11_chance_133 (fun tq22 okq22 => ?_)
                    refine at_iconst (pc := 136) C dX11_chance_136 ?_
                    refine at_iadd (pc := 137) C dX11_chance_137 ?_
                    refine at_istore (pc := 138) (lv' := [(9, vi (ja q22 1)), (4, vi q21), (8, vi q20), (7, vi q17), (0, vr g 0), (2, vi v2), (3, vi v3), (5, vi v5), (6, vi v6)]) C dX11_chance_138 (Nat.le_of_ble_eq_true rfl) rfl ?_
                    refine at_aload_n (pc := 140) C 4 dX11_chance_140 rfl rfl ?_
                    refine at_aload_n (pc := 141) C 4 dX11_chance_141 rfl rfl ?_
                    refine at_getr (pc := 142) (k' := 73) C 73 fw_11_82 kd0 rfl (Nat.le_of_ble_eq_true rfl) rfl rfl dX11_chance_142 ?_
                    refine at_iload (pc := 145) C 3 dX11_chance_145 rfl ?_
                    refine at_iload (pc := 147) C 2 dX11_chance_147 rfl ?_
                    refine at_iload (pc := 149) C 0 dX11_chance_149 rfl ?_
                    obtain ⟨q23, eq23, hF⟩ := bind_some' hF
                    refine at_callV (pc := 151) (ci := 11) C (c_X11_enter l g N 73 q17 q20 (ja q22 1) σ q23 kd73 tq17 tq20 (ja_R q22 1) ok eq23) kv_X11_enter w911 kd0 rfl rfl rfl rfl (Nat.le_of_ble_eq_true rfl) ⟨rfl, rfl, (Nat.le_of_ble_eq_true rfl), (Nat.le_of_ble_eq_true rfl)⟩ dX11_chance_151 (fun tq23 okq23 => ?_)
                    refine at_if_lt (pc := 154) (tgt := 164) C tq23 dX11_chance_154 rfl (fun c24 => ?_) (fun c24 => ?_)
                    · have hF := (if_pos c24).symm.trans hF
                      refine at_sub (lv' := [(0, vr g 0), (2, vi v2), (3, vi v3), (4, vi q21), (5, vi v5), (6, vi v6)]) [4, 5, 6, 1, 7, 8] rfl ?_
                      exact J164 q21 v5 v6 q23.2 tq21 h5 h6 okq23 hF
                    · have hF := (if_neg c24).symm.trans hF
                      refine at_iload (pc := 157) C 7 dX11_chance_157 rfl ?_
                      refine at_iload (pc := 159) C 0 dX11_chance_159 rfl ?_
                      refine at_iadd (pc := 161) C dX11_chance_161 ?_
                      refine at_istore (pc := 162) (lv' := [(5, vi (ja v5 (ja q22 1))), (9, vi (ja q22 1)), (4, vi q21), (8, vi q20), (7, vi q17), (0, vr g 0), (2, vi v2), (3, vi v3), (6, vi v6)]) C dX11_chance_162 (Nat.le_of_ble_eq_true rfl) rfl ?_
                      refine at_sub (lv' := [(0, vr g 0), (2, vi v2), (3, vi v3), (4, vi q21), (5, vi (ja v5 (ja q22 1))), (6, vi v6)]) [5, 6, 7, 2, 0, 8] rfl ?_
                      exact J164 q21 (ja v5 (ja q22 1)) v6 q23.2 tq21 (ja_R v5 (ja q22 1)) h6 okq23 hF
                refine at_sub (lv' := [(0, vr g 0), (2, vi v2), (3, vi v3), (4, vi t0), (5, vi 0), (6, vi 0)]) [3, 4, 5, 2, 1, 0] rfl ?_
                exact L73 v2 v3 t0 0 0 σ h2 h3 ht0 (isB.r (Or.inl rfl)) (isB.r (Or.inl rfl)) ok hF
              refine at_aload_n (pc := 38) C 0 dX11_chance_38 rfl rfl ?_
              refine at_getr (pc := 39) (k' := 73) C 73 fw_11_82 kd0 rfl (Nat.le_of_ble_eq_true rfl) rfl rfl dX11_chance_39 ?_
              refine at_aload_n (pc := 42) C 0 dX11_chance_42 rfl rfl ?_
              refine at_getr (pc := 43) (k' := 29) C 29 fw_11_29 kd0 rfl (Nat.le_of_ble_eq_true rfl) rfl rfl dX11_chance_43 ?_
              obtain ⟨q25, eq25, hF⟩ := bind_some' hF
              refine at_callVv (pc := 46) (ci := 5) C (c_X5_copy l g N 73 29 σ q25 kd73 kd29 ok eq25) kv_X5_copy w1167 kd73 rfl rfl rfl rfl (Nat.le_of_ble_eq_true rfl) ⟨rfl, rfl, (Nat.le_of_ble_eq_true rfl), (Nat.le_of_ble_eq_true rfl)⟩ dX11_chance_46 (fun okq25 => ?_)
              refine at_iload_n (pc := 49) C 1 dX11_chance_49 rfl rfl ?_
              refine at_iconst (pc := 50) C dX11_chance_50 ?_
              refine at_icmp_ne (pc := 51) (tgt := 64) C h1 (show inR (-1) from ⟨by decide, by decide⟩) dX11_chance_51 rfl (fun c26 => ?_) (fun c26 => ?_)
              · have hF := (if_neg c26).symm.trans hF
                refine at_iload_n (pc := 64) C 1 dX11_chance_64 rfl rfl ?_
                refine at_sub (lv' := [(0, vr g 0), (2, vi v2), (3, vi v3)]) [0, 2, 3] rfl ?_
                exact J65 v2 v3 v1 q25 h2 h3 h1 okq25 hF
              · have hF := (if_pos c26).symm.trans hF
                refine at_aload_n (pc := 54) C 0 dX11_chance_54 rfl rfl ?_
                obtain ⟨b27, eb27, kb27, hF⟩ := asB_some hF
                refine at_getd (pc := 55) (jz := 1) (k2 := b27) C fw_11_19 kd0 rfl (Nat.le_of_ble_eq_true rfl) rfl rfl eb27 dX11_chance_55 ?_
                refine at_geti (pc := 58) (jz := 13) C fw_11_447 kb27 rfl (Nat.le_of_ble_eq_true rfl) rfl rfl dX11_chance_58 ?_
                refine at_goto (pc := 61) (tgt := 65) C dX11_chance_61 rfl ?_
                refine at_sub (lv' := [(0, vr g 0), (2, vi v2), (3, vi v3)]) [0, 2, 3] rfl ?_
                exact J65 v2 v3 (q25.1 b27 13) q25 h2 h3 (okq25 b27 13) okq25 hF
            · have hF := (if_neg c7).symm.trans hF
              refine at_iconst (pc := 36) C dX11_chance_36 ?_
              obtain rfl := Option.some.inj hF
              exact at_iret (pc := 37) C hr hlk (show inR (-1) from ⟨by decide, by decide⟩) ok dX11_chance_37
abbrev rm_X11_undo : Room := { frames := 2, cells := 0, slots := 0, locals := 41 }
def F_X11_undo_J144 (N : Nat)   (σ : Sto) : Option (Int × Sto) :=
  (F_X11_forgetNet N σ).bind (fun q2 => some ((q2.1 33 1), q2))
def F_X11_undo (N : Nat)  (σ : Sto) : Option (Int × Sto) :=
  if (σ.1 33 1) = 0 then (some ((-1), σ)) else ((F_X2_pop N σ).bind (fun q3 => inb q3.1 100 (if (q3.2.1 34 q3.1) = 0 then (inb (ja q3.1 1) 100 (F_X11_undo_J144 N   (upI q3.2 29 3 (jmax 0 (js (q3.2.1 29 3) (q3.2.1 34 (ja q3.1 1))))))) else (if (q3.2.1 34 q3.1) = 1 then (inb (ja q3.1 1) 100 (inb (ja q3.1 2) 100 (inb (ja q3.1 3) 100 (inb (ja q3.1 4) 100 ((F_X5_insert N 29 (q3.2.1 34 (ja q3.1 1)) (q3.2.1 34 (ja q3.1 2)) (q3.2.1 34 (ja q3.1 3)) (q3.2.1 34 (ja q3.1 4)) q3.2).bind (fun q12 => F_X11_undo_J144 N   q12)))))) else (if (q3.2.1 34 q3.1) = 2 then (asB (q3.2.1 0 1) (fun b14 => inb (ja q3.1 1) 100 (inb (ja q3.1 2) 100 (inb (q3.2.1 34 (ja q3.1 1)) 12 (F_X11_undo_J144 N   (upI q3.2 (b14 + 7) (q3.2.1 34 (ja q3.1 1)) (q3.2.1 34 (ja q3.1 2)))))))) else (asB (q3.2.1 0 1) (fun b18 => (F_X7_dropLast N (b18 + 8) q3.2).bind (fun q19 => F_X11_undo_J144 N   q19))))))))
set_option maxHeartbeats 4000000 in
set_option maxRecDepth 100000 in
theorem c_X11_undo (l : Launch) (g : Geo) (N : Nat)  (σ : Sto) (res : Int × Sto)  (ok : OK σ) (hF : F_X11_undo N  σ = some res) : MtI l g yX11_undo cX11_undo 3 (some .int) rm_X11_undo [vr g 0] σ res.1 res.2 inR := by
  intro sz
  refine Met.ofAt (own := RX11) (QQ := fun z => QI g z res.1 res.2 inR) (by decide +kernel) (Nat.le_of_ble_eq_true rfl) rfl ?_
  intro p e s m args below meth c C hr hlk
  show At p l e rm_X11_undo s m args below meth c 0 0 g 3 (MQ below (QI g s.heap.size res.1 res.2 inR) args s 0 0 (AA g s.heap.size)) 0 [(0, vr g 0)] [] σ
  unfold F_X11_undo at hF
  refine at_aload_n (pc := 0) C 0 dX11_undo_0 rfl rfl ?_
  refine at_getr (pc := 1) (k' := 33) C 33 fw_11_36 kd0 rfl (Nat.le_of_ble_eq_true rfl) rfl rfl dX11_undo_1 ?_
  refine at_geti (pc := 4) (jz := 1) C fw_11_458 kd33 rfl (Nat.le_of_ble_eq_true rfl) rfl rfl dX11_undo_4 ?_
  refine at_if_ne (pc := 7) (tgt := 12) C (ok 33 1) dX11_undo_7 rfl (fun c1 => ?_) (fun c1 => ?_)
  · have hF := (if_neg c1).symm.trans hF
    have J144 : ∀  (σ : Sto), OK σ → F_X11_undo_J144 N   σ = some res → At p l e rm_X11_undo s m args below meth c 0 0 g 3 (MQ below (QI g s.heap.size res.1 res.2 inR) args s 0 0 (AA g s.heap.size)) 144 [(0, vr g 0)] [] σ := by
      intro σ ok hF
      unfold F_X11_undo_J144 at hF
      refine at_aload_n (pc := 144) C 0 dX11_undo_144 rfl rfl ?_
      obtain ⟨q2, eq2, hF⟩ := bind_some' hF
      refine at_callVv (pc := 145) (ci := 11) C (c_X11_forgetNet l g N  σ q2  ok eq2) kv_X11_forgetNet w679 kd0 rfl rfl rfl rfl (Nat.le_of_ble_eq_true rfl) ⟨rfl, rfl, (Nat.le_of_ble_eq_true rfl), (Nat.le_of_ble_eq_true rfl)⟩ dX11_undo_145 (fun okq2 => ?_)
      refine at_aload_n (pc := 148) C 0 dX11_undo_148 rfl rfl ?_
      refine at_getr (pc := 149) (k' := 33) C 33 fw_11_36 kd0 rfl (Nat.le_of_ble_eq_true rfl) rfl rfl dX11_undo_149 ?_
      refine at_geti (pc := 152) (jz := 1) C fw_11_458 kd33 rfl (Nat.le_of_ble_eq_true rfl) rfl rfl dX11_undo_152 ?_
      obtain rfl := Option.some.inj hF
      exact at_iret (pc := 155) C hr hlk (okq2 33 1) okq2 dX11_undo_155
    refine at_aload_n (pc := 12) C 0 dX11_undo_12 rfl rfl ?_
    refine at_getr (pc := 13) (k' := 33) C 33 fw_11_36 kd0 rfl (Nat.le_of_ble_eq_true rfl) rfl rfl dX11_undo_13 ?_
    obtain ⟨q3, eq3, hF⟩ := bind_some' hF
    refine at_callV (pc := 16) (ci := 2) C (c_X2_pop l g N  σ q3  ok eq3) kv_X2_pop w1184 kd33 rfl rfl rfl rfl (Nat.le_of_ble_eq_true rfl) ⟨rfl, rfl, (Nat.le_of_ble_eq_true rfl), (Nat.le_of_ble_eq_true rfl)⟩ dX11_undo_16 (fun tq3 okq3 => ?_)
    refine at_istore_n (pc := 19) (lv' := [(1, vi q3.1), (0, vr g 0)]) C dX11_undo_19 rfl (Nat.le_of_ble_eq_true rfl) rfl ?_
    refine at_aload_n (pc := 20) C 1 dX11_undo_20 rfl rfl ?_
    refine at_getr (pc := 21) (k' := 33) C 33 fw_11_36 kd0 rfl (Nat.le_of_ble_eq_true rfl) rfl rfl dX11_undo_21 ?_
    refine at_getr (pc := 24) (k' := 34) C 1 fw_11_462 kd33 rfl (Nat.le_of_ble_eq_true rfl) rfl rfl dX11_undo_24 ?_
    refine at_astore_n (pc := 27) (lv' := [(2, vr g 34), (1, vi q3.1), (0, vr g 0)]) C dX11_undo_27 rfl (Nat.le_of_ble_eq_true rfl) rfl ?_
    refine at_aload_n (pc := 28) C 0 dX11_undo_28 rfl rfl ?_
    refine at_iload_n (pc := 29) C 1 dX11_undo_29 rfl rfl ?_
    obtain ⟨b4, hF⟩ := inb_some hF
    refine at_iaload (pc := 30) C kd34 b4 dX11_undo_30 ?_
    by_cases c5 : (q3.2.1 34 q3.1) = 0
    · have hF := (if_pos c5).symm.trans hF
      refine at_tin (pc := 31) (off := 25) (tgt := 56) C dX11_undo_31 (okq3 34 q3.1) (by rw [c5]; decide) (by rw [c5]; decide) (by rw [c5]; rfl) rfl ?_
      refine at_aload_n (pc := 56) C 2 dX11_undo_56 rfl rfl ?_
      refine at_getr (pc := 57) (k' := 29) C 29 fw_11_29 kd0 rfl (Nat.le_of_ble_eq_true rfl) rfl rfl dX11_undo_57 ?_
      refine at_iconst (pc := 60) C dX11_undo_60 ?_
      refine at_aload_n (pc := 61) C 2 dX11_undo_61 rfl rfl ?_
      refine at_getr (pc := 62) (k' := 29) C 29 fw_11_29 kd0 rfl (Nat.le_of_ble_eq_true rfl) rfl rfl dX11_undo_62 ?_
      refine at_geti (pc := 65) (jz := 3) C fw_11_273 kd29 rfl (Nat.le_of_ble_eq_true rfl) rfl rfl dX11_undo_65 ?_
      refine at_aload_n (pc := 68) C 0 dX11_undo_68 rfl rfl ?_
      refine at_iload_n (pc := 69) C 1 dX11_undo_69 rfl rfl ?_
      refine at_iconst (pc := 70) C dX11_undo_70 ?_
      refine at_iadd (pc := 71) C dX11_undo_71 ?_
      obtain ⟨b6, hF⟩ := inb_some hF
      refine at_iaload (pc := 72) C kd34 b6 dX11_undo_72 ?_
      refine at_isub (pc := 73) C dX11_undo_73 ?_
      refine at_mmax (pc := 74) C km_max w889 (isB.r (Or.inl rfl)) (js_R (q3.2.1 29 3) (q3.2.1 34 (ja q3.1 1))) ⟨(Nat.le_of_ble_eq_true rfl), (Nat.le_of_ble_eq_true rfl)⟩ dX11_undo_74 ?_
      refine at_puti (pc := 77) (jz := 3) C fu_11_273 kd29 rfl (Nat.le_of_ble_eq_true rfl) rfl rfl dX11_undo_77 ?_
      refine at_goto (pc := 80) (tgt := 144) C dX11_undo_80 rfl ?_
      refine at_sub (lv' := [(0, vr g 0)]) [2] rfl ?_
      exact J144 (upI q3.2 29 3 (jmax 0 (js (q3.2.1 29 3) (q3.2.1 34 (ja q3.1 1))))) (OK_up (k := 29) (j := 3) okq3 (jmax_R (isB.r (Or.inl rfl)) (js_R (q3.2.1 29 3) (q3.2.1 34 (ja q3.1 1))))) hF
    · have hF := (if_neg c5).symm.trans hF
      by_cases c7 : (q3.2.1 34 q3.1) = 1
      · have hF := (if_pos c7).symm.trans hF
        refine at_tin (pc := 31) (off := 52) (tgt := 83) C dX11_undo_31 (okq3 34 q3.1) (by rw [c7]; decide) (by rw [c7]; decide) (by rw [c7]; rfl) rfl ?_
        refine at_aload_n (pc := 83) C 2 dX11_undo_83 rfl rfl ?_
        refine at_getr (pc := 84) (k' := 29) C 29 fw_11_29 kd0 rfl (Nat.le_of_ble_eq_true rfl) rfl rfl dX11_undo_84 ?_
        refine at_aload_n (pc := 87) C 0 dX11_undo_87 rfl rfl ?_
        refine at_iload_n (pc := 88) C 1 dX11_undo_88 rfl rfl ?_
        refine at_iconst (pc := 89) C dX11_undo_89 ?_
        refine at_iadd (pc := 90) C dX11_undo_90 ?_
        obtain ⟨b8, hF⟩ := inb_some hF
        refine at_iaload (pc := 91) C kd34 b8 dX11_undo_91 ?_
        refine at_aload_n (pc := 92) C 0 dX11_undo_92 rfl rfl ?_
        refine at_iload_n (pc := 93) C 1 dX11_undo_93 rfl rfl ?_
        refine at_iconst (pc := 94) C dX11_undo_94 ?_
        refine at_iadd (pc := 95) C dX11_undo_95 ?_
        obtain ⟨b9, hF⟩ := inb_some hF
        refine at_iaload (pc := 96) C kd34 b9 dX11_undo_96 ?_
        refine at_aload_n (pc := 97) C 0 dX11_undo_97 rfl rfl ?_
        refine at_iload_n (pc := 98) C 1 dX11_undo_98 rfl rfl ?_
        refine at_iconst (pc := 99) C dX11_undo_99 ?_
        refine at_iadd (pc := 100) C dX11_undo_100 ?_
        obtain ⟨b10, hF⟩ := inb_some hF
        refine at_iaload (pc := 101) C kd34 b10 dX11_undo_101 ?_
        refine at_aload_n (pc := 102) C 0 dX11_undo_102 rfl rfl ?_
        refine at_iload_n (pc := 103) C 1 dX11_undo_103 rfl rfl ?_
        refine at_iconst (pc := 104) C dX11_undo_104 ?_
        refine at_iadd (pc := 105) C dX11_undo_105 ?_
        obtain ⟨b11, hF⟩ := inb_some hF
        refine at_iaload (pc := 106) C kd34 b11 dX11_undo_106 ?_
        obtain ⟨q12, eq12, hF⟩ := bind_some' hF
        refine at_callVv (pc := 107) (ci := 5) C (c_X5_insert l g N 29 (q3.2.1 34 (ja q3.1 1)) (q3.2.1 34 (ja q3.1 2)) (q3.2.1 34 (ja q3.1 3)) (q3.2.1 34 (ja q3.1 4)) q3.2 q12 kd29 (okq3 34 (ja q3.1 1)) (okq3 34 (ja q3.1 2)) (okq3 34 (ja q3.1 3)) (okq3 34 (ja q3.1 4)) okq3 eq12) kv_X5_insert w916 kd29 rfl rfl rfl rfl (Nat.le_of_ble_eq_true rfl) ⟨rfl, rfl, (Nat.le_of_ble_eq_true rfl), (Nat.le_of_ble_eq_true rfl)⟩ dX11_undo_107 (fun okq12 => ?_)
        refine at_goto (pc := 110) (tgt := 144) C dX11_undo_110 rfl ?_
        refine at_sub (lv' := [(0, vr g 0)]) [2] rfl ?_
        exact J144 q12 okq12 hF
      · have hF := (if_neg c7).symm.trans hF
        by_cases c13 : (q3.2.1 34 q3.1) = 2
        · have hF := (if_pos c13).symm.trans hF
          refine at_tin (pc := 31) (off := 82) (tgt := 113) C dX11_undo_31 (okq3 34 q3.1) (by rw [c13]; decide) (by rw [c13]; decide) (by rw [c13]; rfl) rfl ?_
          refine at_aload_n (pc := 113) C 2 dX11_undo_113 rfl rfl ?_
          obtain ⟨b14, eb14, kb14, hF⟩ := asB_some hF
          refine at_getd (pc := 114) (jz := 1) (k2 := b14) C fw_11_19 kd0 rfl (Nat.le_of_ble_eq_true rfl) rfl rfl eb14 dX11_undo_114 ?_
          refine at_getr (pc := 117) C 7 fw_11_178 kb14 rfl (Nat.le_of_ble_eq_true rfl) rfl rfl dX11_undo_117 ?_
          refine at_aload_n (pc := 120) C 0 dX11_undo_120 rfl rfl ?_
          refine at_iload_n (pc := 121) C 1 dX11_undo_121 rfl rfl ?_
          refine at_iconst (pc := 122) C dX11_undo_122 ?_
          refine at_iadd (pc := 123) C dX11_undo_123 ?_
          obtain ⟨b15, hF⟩ := inb_some hF
          refine at_iaload (pc := 124) C kd34 b15 dX11_undo_124 ?_
          refine at_aload_n (pc := 125) C 0 dX11_undo_125 rfl rfl ?_
          refine at_iload_n (pc := 126) C 1 dX11_undo_126 rfl rfl ?_
          refine at_iconst (pc := 127) C dX11_undo_127 ?_
          refine at_iadd (pc := 128) C dX11_undo_128 ?_
          obtain ⟨b16, hF⟩ := inb_some hF
          refine at_iaload (pc := 129) C kd34 b16 dX11_undo_129 ?_
          obtain ⟨b17, hF⟩ := inb_some hF
          refine at_iastore (pc := 130) C (kf0_6 kb14) b17 dX11_undo_130 ?_
          refine at_goto (pc := 131) (tgt := 144) C dX11_undo_131 rfl ?_
          refine at_sub (lv' := [(0, vr g 0)]) [2] rfl ?_
          exact J144 (upI q3.2 (b14 + 7) (q3.2.1 34 (ja q3.1 1)) (q3.2.1 34 (ja q3.1 2))) (OK_up (k := (b14 + 7)) (j := (q3.2.1 34 (ja q3.1 1))) okq3 (okq3 34 (ja q3.1 2))) hF
        · have hF := (if_neg c13).symm.trans hF
          refine at_tout (pc := 31) (tgt := 134) C (okq3 34 q3.1) dX11_undo_31 (by omega) rfl ?_
          refine at_aload_n (pc := 134) C 2 dX11_undo_134 rfl rfl ?_
          obtain ⟨b18, eb18, kb18, hF⟩ := asB_some hF
          refine at_getd (pc := 135) (jz := 1) (k2 := b18) C fw_11_19 kd0 rfl (Nat.le_of_ble_eq_true rfl) rfl rfl eb18 dX11_undo_135 ?_
          refine at_getr (pc := 138) C 8 fw_11_250 kb18 rfl (Nat.le_of_ble_eq_true rfl) rfl rfl dX11_undo_138 ?_
          obtain ⟨q19, eq19, hF⟩ := bind_some' hF
          refine at_callVv (pc := 141) (ci := 7) C (c_X7_dropLast l g N (b18 + 8) q3.2 q19 (kf0_7 kb18) okq3 eq19) kv_X7_dropLast w873 (kf0_7 kb18) rfl rfl rfl rfl (Nat.le_of_ble_eq_true rfl) ⟨rfl, rfl, (Nat.le_of_ble_eq_true rfl), (Nat.le_of_ble_eq_true rfl)⟩ dX11_undo_141 (fun okq19 => ?_)
          refine at_sub (lv' := [(0, vr g 0)]) [2] rfl ?_
          exact J144 q19 okq19 hF
  · have hF := (if_pos c1).symm.trans hF
    refine at_iconst (pc := 10) C dX11_undo_10 ?_
    obtain rfl := Option.some.inj hF
    exact at_iret (pc := 11) C hr hlk (show inR (-1) from ⟨by decide, by decide⟩) ok dX11_undo_11
abbrev rm_X11_keep : Room := { frames := 2, cells := 0, slots := 0, locals := 69 }
def F_X11_keep (N : Nat)  (σ : Sto) : Option (Int × Sto) :=
  (F_X5_copy N 36 29 (upI σ 35 3 1)).bind (fun q1 => asB (q1.1 0 1) (fun b2 => (F_X7_copy N 40 (b2 + 8) q1).bind (fun q3 => asB (q3.1 0 1) (fun b4 => grd ((0 : Int) ≤ 0 ∧ (0 : Int) ≤ 0 ∧ (0 : Int) ≤ 12 ∧ (0 : Int) + 12 ≤ 12 ∧ (0 : Int) + 12 ≤ 12) inferInstance (some (((cpI q3 (b4 + 7) 0 45 0 12).1 29 3), (cpI q3 (b4 + 7) 0 45 0 12)))))))
set_option maxHeartbeats 4000000 in
set_option maxRecDepth 100000 in
theorem c_X11_keep (l : Launch) (g : Geo) (N : Nat)  (σ : Sto) (res : Int × Sto)  (ok : OK σ) (hF : F_X11_keep N  σ = some res) : MtI l g yX11_keep cX11_keep 1 (some .int) rm_X11_keep [vr g 0] σ res.1 res.2 inR := by
  intro sz
  refine Met.ofAt (own := RX11) (QQ := fun z => QI g z res.1 res.2 inR) (by decide +kernel) (Nat.le_of_ble_eq_true rfl) rfl ?_
  intro p e s m args below meth c C hr hlk
  show At p l e rm_X11_keep s m args below meth c 0 0 g 1 (MQ below (QI g s.heap.size res.1 res.2 inR) args s 0 0 (AA g s.heap.size)) 0 [(0, vr g 0)] [] σ
  unfold F_X11_keep at hF
  refine at_aload_n (pc := 0) C 0 dX11_keep_0 rfl rfl ?_
  refine at_getr (pc := 1) (k' := 35) C 35 fw_11_43 kd0 rfl (Nat.le_of_ble_eq_true rfl) rfl rfl dX11_keep_1 ?_
  refine at_iconst (pc := 4) C dX11_keep_4 ?_
  refine at_putz (pc := 5) (jz := 3) C fu_11_121 kd35 rfl (Nat.le_of_ble_eq_true rfl) rfl (Or.inr rfl) rfl dX11_keep_5 ?_
  refine at_aload_n (pc := 8) C 0 dX11_keep_8 rfl rfl ?_
  refine at_getr (pc := 9) (k' := 35) C 35 fw_11_43 kd0 rfl (Nat.le_of_ble_eq_true rfl) rfl rfl dX11_keep_9 ?_
  refine at_getr (pc := 12) (k' := 36) C 1 fw_11_465 kd35 rfl (Nat.le_of_ble_eq_true rfl) rfl rfl dX11_keep_12 ?_
  refine at_aload_n (pc := 15) C 0 dX11_keep_15 rfl rfl ?_
  refine at_getr (pc := 16) (k' := 29) C 29 fw_11_29 kd0 rfl (Nat.le_of_ble_eq_true rfl) rfl rfl dX11_keep_16 ?_
  obtain ⟨q1, eq1, hF⟩ := bind_some' hF
  refine at_callVv (pc := 19) (ci := 5) C (c_X5_copy l g N 36 29 (upI σ 35 3 1) q1 kd36 kd29 (OK_up (k := 35) (j := 3) ok (isB.r (Or.inr rfl))) eq1) kv_X5_copy w1167 kd36 rfl rfl rfl rfl (Nat.le_of_ble_eq_true rfl) ⟨rfl, rfl, (Nat.le_of_ble_eq_true rfl), (Nat.le_of_ble_eq_true rfl)⟩ dX11_keep_19 (fun okq1 => ?_)
  refine at_aload_n (pc := 22) C 0 dX11_keep_22 rfl rfl ?_
  refine at_getr (pc := 23) (k' := 35) C 35 fw_11_43 kd0 rfl (Nat.le_of_ble_eq_true rfl) rfl rfl dX11_keep_23 ?_
  refine at_getr (pc := 26) (k' := 40) C 5 fw_11_466 kd35 rfl (Nat.le_of_ble_eq_true rfl) rfl rfl dX11_keep_26 ?_
  refine at_aload_n (pc := 29) C 0 dX11_keep_29 rfl rfl ?_
  obtain ⟨b2, eb2, kb2, hF⟩ := asB_some hF
  refine at_getd (pc := 30) (jz := 1) (k2 := b2) C fw_11_19 kd0 rfl (Nat.le_of_ble_eq_true rfl) rfl rfl eb2 dX11_keep_30 ?_
  refine at_getr (pc := 33) C 8 fw_11_250 kb2 rfl (Nat.le_of_ble_eq_true rfl) rfl rfl dX11_keep_33 ?_
  obtain ⟨q3, eq3, hF⟩ := bind_some' hF
  refine at_callVv (pc := 36) (ci := 7) C (c_X7_copy l g N 40 (b2 + 8) q1 q3 kd40 (kf0_7 kb2) okq1 eq3) kv_X7_copy w1193 kd40 rfl rfl rfl rfl (Nat.le_of_ble_eq_true rfl) ⟨rfl, rfl, (Nat.le_of_ble_eq_true rfl), (Nat.le_of_ble_eq_true rfl)⟩ dX11_keep_36 (fun okq3 => ?_)
  refine at_aload_n (pc := 39) C 0 dX11_keep_39 rfl rfl ?_
  obtain ⟨b4, eb4, kb4, hF⟩ := asB_some hF
  refine at_getd (pc := 40) (jz := 1) (k2 := b4) C fw_11_19 kd0 rfl (Nat.le_of_ble_eq_true rfl) rfl rfl eb4 dX11_keep_40 ?_
  refine at_getr (pc := 43) C 7 fw_11_178 kb4 rfl (Nat.le_of_ble_eq_true rfl) rfl rfl dX11_keep_43 ?_
  refine at_iconst (pc := 46) C dX11_keep_46 ?_
  refine at_aload_n (pc := 47) C 0 dX11_keep_47 rfl rfl ?_
  refine at_getr (pc := 48) (k' := 35) C 35 fw_11_43 kd0 rfl (Nat.le_of_ble_eq_true rfl) rfl rfl dX11_keep_48 ?_
  refine at_getr (pc := 51) (k' := 45) C 10 fw_11_470 kd35 rfl (Nat.le_of_ble_eq_true rfl) rfl rfl dX11_keep_51 ?_
  refine at_iconst (pc := 54) C dX11_keep_54 ?_
  refine at_bipush (pc := 55) C dX11_keep_55 (by decide) ?_
  obtain ⟨y5, hF⟩ := grd_some hF
  refine at_copy (pc := 57) C kc w1162 (kf0_6 kb4) kd45 y5 ⟨(Nat.le_of_ble_eq_true rfl), (Nat.le_of_ble_eq_true rfl)⟩ dX11_keep_57 ?_
  refine at_aload_n (pc := 60) C 0 dX11_keep_60 rfl rfl ?_
  refine at_getr (pc := 61) (k' := 29) C 29 fw_11_29 kd0 rfl (Nat.le_of_ble_eq_true rfl) rfl rfl dX11_keep_61 ?_
  refine at_geti (pc := 64) (jz := 3) C fw_11_273 kd29 rfl (Nat.le_of_ble_eq_true rfl) rfl rfl dX11_keep_64 ?_
  obtain rfl := Option.some.inj hF
  exact at_iret (pc := 67) C hr hlk (show inR ((cpI q3 (b4 + 7) 0 45 0 12).1 29 3) from ((OK_cp (ks := (b4 + 7)) (sp := 0) (kd := 45) (dp := 0) (n := 12) okq3) 29 3)) (OK_cp (ks := (b4 + 7)) (sp := 0) (kd := 45) (dp := 0) (n := 12) okq3) dX11_keep_67
abbrev rm_X11_back : Room := { frames := 2, cells := 0, slots := 0, locals := 69 }
def F_X11_back (N : Nat)  (σ : Sto) : Option (Int × Sto) :=
  if (σ.1 35 3) = 0 then (some ((-1), σ)) else ((F_X5_copy N 29 36 σ).bind (fun q2 => asB (q2.1 0 1) (fun b3 => (F_X7_copy N (b3 + 8) 40 q2).bind (fun q4 => asB (q4.1 0 1) (fun b5 => grd ((0 : Int) ≤ 0 ∧ (0 : Int) ≤ 0 ∧ (0 : Int) ≤ 12 ∧ (0 : Int) + 12 ≤ 12 ∧ (0 : Int) + 12 ≤ 12) inferInstance ((F_X2_clear N (cpI q4 45 0 (b5 + 7) 0 12)).bind (fun q7 => (F_X11_forgetNet N q7).bind (fun q8 => some ((q8.1 29 3), q8)))))))))
set_option maxHeartbeats 4000000 in
set_option maxRecDepth 100000 in
theorem c_X11_back (l : Launch) (g : Geo) (N : Nat)  (σ : Sto) (res : Int × Sto)  (ok : OK σ) (hF : F_X11_back N  σ = some res) : MtI l g yX11_back cX11_back 1 (some .int) rm_X11_back [vr g 0] σ res.1 res.2 inR := by
  intro sz
  refine Met.ofAt (own := RX11) (QQ := fun z => QI g z res.1 res.2 inR) (by decide +kernel) (Nat.le_of_ble_eq_true rfl) rfl ?_
  intro p e s m args below meth c C hr hlk
  show At p l e rm_X11_back s m args below meth c 0 0 g 1 (MQ below (QI g s.heap.size res.1 res.2 inR) args s 0 0 (AA g s.heap.size)) 0 [(0, vr g 0)] [] σ
  unfold F_X11_back at hF
  refine at_aload_n (pc := 0) C 0 dX11_back_0 rfl rfl ?_
  refine at_getr (pc := 1) (k' := 35) C 35 fw_11_43 kd0 rfl (Nat.le_of_ble_eq_true rfl) rfl rfl dX11_back_1 ?_
  refine at_geti (pc := 4) (jz := 3) C fw_11_121 kd35 rfl (Nat.le_of_ble_eq_true rfl) rfl rfl dX11_back_4 ?_
  refine at_if_ne (pc := 7) (tgt := 12) C (ok 35 3) dX11_back_7 rfl (fun c1 => ?_) (fun c1 => ?_)
  · have hF := (if_neg c1).symm.trans hF
    refine at_aload_n (pc := 12) C 0 dX11_back_12 rfl rfl ?_
    refine at_getr (pc := 13) (k' := 29) C 29 fw_11_29 kd0 rfl (Nat.le_of_ble_eq_true rfl) rfl rfl dX11_back_13 ?_
    refine at_aload_n (pc := 16) C 0 dX11_back_16 rfl rfl ?_
    refine at_getr (pc := 17) (k' := 35) C 35 fw_11_43 kd0 rfl (Nat.le_of_ble_eq_true rfl) rfl rfl dX11_back_17 ?_
    refine at_getr (pc := 20) (k' := 36) C 1 fw_11_465 kd35 rfl (Nat.le_of_ble_eq_true rfl) rfl rfl dX11_back_20 ?_
    obtain ⟨q2, eq2, hF⟩ := bind_some' hF
    refine at_callVv (pc := 23) (ci := 5) C (c_X5_copy l g N 29 36 σ q2 kd29 kd36 ok eq2) kv_X5_copy w1167 kd29 rfl rfl rfl rfl (Nat.le_of_ble_eq_true rfl) ⟨rfl, rfl, (Nat.le_of_ble_eq_true rfl), (Nat.le_of_ble_eq_true rfl)⟩ dX11_back_23 (fun okq2 => ?_)
    refine at_aload_n (pc := 26) C 0 dX11_back_26 rfl rfl ?_
    obtain ⟨b3, eb3, kb3, hF⟩ := asB_some hF
    refine at_getd (pc := 27) (jz := 1) (k2 := b3) C fw_11_19 kd0 rfl (Nat.le_of_ble_eq_true rfl) rfl rfl eb3 dX11_back_27 ?_
    refine at_getr (pc := 30) C 8 fw_11_250 kb3 rfl (Nat.le_of_ble_eq_true rfl) rfl rfl dX11_back_30 ?_
    refine at_aload_n (pc := 33) C 0 dX11_back_33 rfl rfl ?_
    refine at_getr (pc := 34) (k' := 35) C 35 fw_11_43 kd0 rfl (Nat.le_of_ble_eq_true rfl) rfl rfl dX11_back_34 ?_
    refine at_getr (pc := 37) (k' := 40) C 5 fw_11_466 kd35 rfl (Nat.le_of_ble_eq_true rfl) rfl rfl dX11_back_37 ?_
    obtain ⟨q4, eq4, hF⟩ := bind_some' hF
    refine at_callVv (pc := 40) (ci := 7) C (c_X7_copy l g N (b3 + 8) 40 q2 q4 (kf0_7 kb3) kd40 okq2 eq4) kv_X7_copy w1193 (kf0_7 kb3) rfl rfl rfl rfl (Nat.le_of_ble_eq_true rfl) ⟨rfl, rfl, (Nat.le_of_ble_eq_true rfl), (Nat.le_of_ble_eq_true rfl)⟩ dX11_back_40 (fun okq4 => ?_)
    refine at_aload_n (pc := 43) C 0 dX11_back_43 rfl rfl ?_
    refine at_getr (pc := 44) (k' := 35) C 35 fw_11_43 kd0 rfl (Nat.le_of_ble_eq_true rfl) rfl rfl dX11_back_44 ?_
    refine at_getr (pc := 47) (k' := 45) C 10 fw_11_470 kd35 rfl (Nat.le_of_ble_eq_true rfl) rfl rfl dX11_back_47 ?_
    refine at_iconst (pc := 50) C dX11_back_50 ?_
    refine at_aload_n (pc := 51) C 0 dX11_back_51 rfl rfl ?_
    obtain ⟨b5, eb5, kb5, hF⟩ := asB_some hF
    refine at_getd (pc := 52) (jz := 1) (k2 := b5) C fw_11_19 kd0 rfl (Nat.le_of_ble_eq_true rfl) rfl rfl eb5 dX11_back_52 ?_
    refine at_getr (pc := 55) C 7 fw_11_178 kb5 rfl (Nat.le_of_ble_eq_true rfl) rfl rfl dX11_back_55 ?_
    refine at_iconst (pc := 58) C dX11_back_58 ?_
    refine at_bipush (pc := 59) C dX11_back_59 (by decide) ?_
    obtain ⟨y6, hF⟩ := grd_some hF
    refine at_copy (pc := 61) C kc w1162 kd45 (kf0_6 kb5) y6 ⟨(Nat.le_of_ble_eq_true rfl), (Nat.le_of_ble_eq_true rfl)⟩ dX11_back_61 ?_
    refine at_aload_n (pc := 64) C 0 dX11_back_64 rfl rfl ?_
    refine at_getr (pc := 65) (k' := 33) C 33 fw_11_36 kd0 rfl (Nat.le_of_ble_eq_true rfl) rfl rfl dX11_back_65 ?_
    obtain ⟨q7, eq7, hF⟩ := bind_some' hF
    refine at_callVv (pc := 68) (ci := 2) C (c_X2_clear l g N  (cpI q4 45 0 (b5 + 7) 0 12) q7  (OK_cp (ks := 45) (sp := 0) (kd := (b5 + 7)) (dp := 0) (n := 12) okq4) eq7) kv_X2_clear w675 kd33 rfl rfl rfl rfl (Nat.le_of_ble_eq_true rfl) ⟨rfl, rfl, (Nat.le_of_ble_eq_true rfl), (Nat.le_of_ble_eq_true rfl)⟩ dX11_back_68 (fun okq7 => ?_)
    refine at_aload_n (pc := 71) C 0 dX11_back_71 rfl rfl ?_
    obtain ⟨q8, eq8, hF⟩ := bind_some' hF
    refine at_callVv (pc := 72) (ci := 11) C (c_X11_forgetNet l g N  q7 q8  okq7 eq8) kv_X11_forgetNet w679 kd0 rfl rfl rfl rfl (Nat.le_of_ble_eq_true rfl) ⟨rfl, rfl, (Nat.le_of_ble_eq_true rfl), (Nat.le_of_ble_eq_true rfl)⟩ dX11_back_72 (fun okq8 => ?_)
    refine at_aload_n (pc := 75) C 0 dX11_back_75 rfl rfl ?_
    refine at_getr (pc := 76) (k' := 29) C 29 fw_11_29 kd0 rfl (Nat.le_of_ble_eq_true rfl) rfl rfl dX11_back_76 ?_
    refine at_geti (pc := 79) (jz := 3) C fw_11_273 kd29 rfl (Nat.le_of_ble_eq_true rfl) rfl rfl dX11_back_79 ?_
    obtain rfl := Option.some.inj hF
    exact at_iret (pc := 82) C hr hlk (okq8 29 3) okq8 dX11_back_82
  · have hF := (if_pos c1).symm.trans hF
    refine at_iconst (pc := 10) C dX11_back_10 ?_
    obtain rfl := Option.some.inj hF
    exact at_iret (pc := 11) C hr hlk (show inR (-1) from ⟨by decide, by decide⟩) ok dX11_back_11
abbrev rm_X11_count : Room := { frames := 2, cells := 0, slots := 0, locals := 44 }
def F_X11_count (N : Nat) (v1 : Int) (σ : Sto) : Option (Int) :=
  if v1 = 0 then (asB (σ.1 0 1) (fun b2 => some (σ.1 b2 8))) else (if v1 = 1 then (asB (σ.1 0 1) (fun b4 => some (σ.1 b4 9))) else (if v1 = 2 then (asB (σ.1 0 1) (fun b6 => some (σ.1 (b6 + 8) 4))) else (if v1 = 3 then (some (σ.1 29 3)) else (if v1 = 4 then (asB (σ.1 0 1) (fun b9 => some (σ.1 b9 10))) else (if v1 = 5 then (asB (σ.1 0 1) (fun b11 => some (σ.1 b11 11))) else (if v1 = 6 then (asB (σ.1 0 1) (fun b13 => (F_X0_countSigned N b13 (-1) σ).bind (fun q14 => some q14))) else (if v1 = 7 then (asB (σ.1 0 1) (fun b16 => (F_X0_countSigned N b16 1 σ).bind (fun q17 => some q17))) else (if v1 = 8 then (some (σ.1 33 1)) else (if v1 = 9 then (some (σ.1 1 1)) else (if v1 = 10 then (asB (σ.1 0 1) (fun b21 => some (σ.1 b21 12))) else (some (-1))))))))))))
set_option maxHeartbeats 4000000 in
set_option maxRecDepth 100000 in
theorem c_X11_count (l : Launch) (g : Geo) (N : Nat) (v1 : Int) (σ : Sto) (res : Int) (h1 : inR v1) (ok : OK σ) (hF : F_X11_count N v1 σ = some res) : MtI l g yX11_count cX11_count 2 (some .int) rm_X11_count [vr g 0, vi v1] σ res σ inR := by
  intro sz
  refine Met.ofAt (own := RX11) (QQ := fun z => QI g z res σ inR) (by decide +kernel) (Nat.le_of_ble_eq_true rfl) rfl ?_
  intro p e s m args below meth c C hr hlk
  show At p l e rm_X11_count s m args below meth c 0 0 g 2 (MQ below (QI g s.heap.size res σ inR) args s 0 0 (AA g s.heap.size)) 0 [(0, vr g 0), (1, vi v1)] [] σ
  unfold F_X11_count at hF
  refine at_iload_n (pc := 0) C 1 dX11_count_0 rfl rfl ?_
  by_cases c1 : v1 = 0
  · have hF := (if_pos c1).symm.trans hF
    refine at_tin (pc := 1) (off := 59) (tgt := 60) C dX11_count_1 h1 (by rw [c1]; decide) (by rw [c1]; decide) (by rw [c1]; rfl) rfl ?_
    refine at_aload_n (pc := 60) C 0 dX11_count_60 rfl rfl ?_
    obtain ⟨b2, eb2, kb2, hF⟩ := asB_some hF
    refine at_getd (pc := 61) (jz := 1) (k2 := b2) C fw_11_19 kd0 rfl (Nat.le_of_ble_eq_true rfl) rfl rfl eb2 dX11_count_61 ?_
    refine at_geti (pc := 64) (jz := 8) C fw_11_392 kb2 rfl (Nat.le_of_ble_eq_true rfl) rfl rfl dX11_count_64 ?_
    obtain rfl := Option.some.inj hF
    exact at_iret (pc := 67) C hr hlk (ok b2 8) ok dX11_count_67
  · have hF := (if_neg c1).symm.trans hF
    by_cases c3 : v1 = 1
    · have hF := (if_pos c3).symm.trans hF
      refine at_tin (pc := 1) (off := 67) (tgt := 68) C dX11_count_1 h1 (by rw [c3]; decide) (by rw [c3]; decide) (by rw [c3]; rfl) rfl ?_
      refine at_aload_n (pc := 68) C 0 dX11_count_68 rfl rfl ?_
      obtain ⟨b4, eb4, kb4, hF⟩ := asB_some hF
      refine at_getd (pc := 69) (jz := 1) (k2 := b4) C fw_11_19 kd0 rfl (Nat.le_of_ble_eq_true rfl) rfl rfl eb4 dX11_count_69 ?_
      refine at_geti (pc := 72) (jz := 9) C fw_11_324 kb4 rfl (Nat.le_of_ble_eq_true rfl) rfl rfl dX11_count_72 ?_
      obtain rfl := Option.some.inj hF
      exact at_iret (pc := 75) C hr hlk (ok b4 9) ok dX11_count_75
    · have hF := (if_neg c3).symm.trans hF
      by_cases c5 : v1 = 2
      · have hF := (if_pos c5).symm.trans hF
        refine at_tin (pc := 1) (off := 75) (tgt := 76) C dX11_count_1 h1 (by rw [c5]; decide) (by rw [c5]; decide) (by rw [c5]; rfl) rfl ?_
        refine at_aload_n (pc := 76) C 0 dX11_count_76 rfl rfl ?_
        obtain ⟨b6, eb6, kb6, hF⟩ := asB_some hF
        refine at_getd (pc := 77) (jz := 1) (k2 := b6) C fw_11_19 kd0 rfl (Nat.le_of_ble_eq_true rfl) rfl rfl eb6 dX11_count_77 ?_
        refine at_getr (pc := 80) C 8 fw_11_250 kb6 rfl (Nat.le_of_ble_eq_true rfl) rfl rfl dX11_count_80 ?_
        refine at_geti (pc := 83) (jz := 4) C fw_11_253 (kf0_7 kb6) rfl (Nat.le_of_ble_eq_true rfl) rfl rfl dX11_count_83 ?_
        obtain rfl := Option.some.inj hF
        exact at_iret (pc := 86) C hr hlk (ok (b6 + 8) 4) ok dX11_count_86
      · have hF := (if_neg c5).symm.trans hF
        by_cases c7 : v1 = 3
        · have hF := (if_pos c7).symm.trans hF
          refine at_tin (pc := 1) (off := 86) (tgt := 87) C dX11_count_1 h1 (by rw [c7]; decide) (by rw [c7]; decide) (by rw [c7]; rfl) rfl ?_
          refine at_aload_n (pc := 87) C 0 dX11_count_87 rfl rfl ?_
          refine at_getr (pc := 88) (k' := 29) C 29 fw_11_29 kd0 rfl (Nat.le_of_ble_eq_true rfl) rfl rfl dX11_count_88 ?_
          refine at_geti (pc := 91) (jz := 3) C fw_11_273 kd29 rfl (Nat.le_of_ble_eq_true rfl) rfl rfl dX11_count_91 ?_
          obtain rfl := Option.some.inj hF
          exact at_iret (pc := 94) C hr hlk (ok 29 3) ok dX11_count_94
        · have hF := (if_neg c7).symm.trans hF
          by_cases c8 : v1 = 4
          · have hF := (if_pos c8).symm.trans hF
            refine at_tin (pc := 1) (off := 94) (tgt := 95) C dX11_count_1 h1 (by rw [c8]; decide) (by rw [c8]; decide) (by rw [c8]; rfl) rfl ?_
            refine at_aload_n (pc := 95) C 0 dX11_count_95 rfl rfl ?_
            obtain ⟨b9, eb9, kb9, hF⟩ := asB_some hF
            refine at_getd (pc := 96) (jz := 1) (k2 := b9) C fw_11_19 kd0 rfl (Nat.le_of_ble_eq_true rfl) rfl rfl eb9 dX11_count_96 ?_
            refine at_geti (pc := 99) (jz := 10) C fw_11_217 kb9 rfl (Nat.le_of_ble_eq_true rfl) rfl rfl dX11_count_99 ?_
            obtain rfl := Option.some.inj hF
            exact at_iret (pc := 102) C hr hlk (ok b9 10) ok dX11_count_102
          · have hF := (if_neg c8).symm.trans hF
            by_cases c10 : v1 = 5
            · have hF := (if_pos c10).symm.trans hF
              refine at_tin (pc := 1) (off := 102) (tgt := 103) C dX11_count_1 h1 (by rw [c10]; decide) (by rw [c10]; decide) (by rw [c10]; rfl) rfl ?_
              refine at_aload_n (pc := 103) C 0 dX11_count_103 rfl rfl ?_
              obtain ⟨b11, eb11, kb11, hF⟩ := asB_some hF
              refine at_getd (pc := 104) (jz := 1) (k2 := b11) C fw_11_19 kd0 rfl (Nat.le_of_ble_eq_true rfl) rfl rfl eb11 dX11_count_104 ?_
              refine at_geti (pc := 107) (jz := 11) C fw_11_471 kb11 rfl (Nat.le_of_ble_eq_true rfl) rfl rfl dX11_count_107 ?_
              obtain rfl := Option.some.inj hF
              exact at_iret (pc := 110) C hr hlk (ok b11 11) ok dX11_count_110
            · have hF := (if_neg c10).symm.trans hF
              by_cases c12 : v1 = 6
              · have hF := (if_pos c12).symm.trans hF
                refine at_tin (pc := 1) (off := 110) (tgt := 111) C dX11_count_1 h1 (by rw [c12]; decide) (by rw [c12]; decide) (by rw [c12]; rfl) rfl ?_
                refine at_aload_n (pc := 111) C 0 dX11_count_111 rfl rfl ?_
                obtain ⟨b13, eb13, kb13, hF⟩ := asB_some hF
                refine at_getd (pc := 112) (jz := 1) (k2 := b13) C fw_11_19 kd0 rfl (Nat.le_of_ble_eq_true rfl) rfl rfl eb13 dX11_count_112 ?_
                refine at_iconst (pc := 115) C dX11_count_115 ?_
                obtain ⟨q14, eq14, hF⟩ := bind_some' hF
                refine at_callV (pc := 116) (ci := 0) C (c_X0_countSigned l g N b13 (-1) σ q14 kb13 (show inR (-1) from ⟨by decide, by decide⟩) ok eq14) kv_X0_countSigned w1206 kb13 rfl rfl rfl rfl (Nat.le_of_ble_eq_true rfl) ⟨rfl, rfl, (Nat.le_of_ble_eq_true rfl), (Nat.le_of_ble_eq_true rfl)⟩ dX11_count_116 (fun tq14 okq14 => ?_)
                obtain rfl := Option.some.inj hF
                exact at_iret (pc := 119) C hr hlk tq14 ok dX11_count_119
              · have hF := (if_neg c12).symm.trans hF
                by_cases c15 : v1 = 7
                · have hF := (if_pos c15).symm.trans hF
                  refine at_tin (pc := 1) (off := 119) (tgt := 120) C dX11_count_1 h1 (by rw [c15]; decide) (by rw [c15]; decide) (by rw [c15]; rfl) rfl ?_
                  refine at_aload_n (pc := 120) C 0 dX11_count_120 rfl rfl ?_
                  obtain ⟨b16, eb16, kb16, hF⟩ := asB_some hF
                  refine at_getd (pc := 121) (jz := 1) (k2 := b16) C fw_11_19 kd0 rfl (Nat.le_of_ble_eq_true rfl) rfl rfl eb16 dX11_count_121 ?_
                  refine at_iconst (pc := 124) C dX11_count_124 ?_
                  obtain ⟨q17, eq17, hF⟩ := bind_some' hF
                  refine at_callV (pc := 125) (ci := 0) C (c_X0_countSigned l g N b16 1 σ q17 kb16 (isB.r (Or.inr rfl)) ok eq17) kv_X0_countSigned w1206 kb16 rfl rfl rfl rfl (Nat.le_of_ble_eq_true rfl) ⟨rfl, rfl, (Nat.le_of_ble_eq_true rfl), (Nat.le_of_ble_eq_true rfl)⟩ dX11_count_125 (fun tq17 okq17 => ?_)
                  obtain rfl := Option.some.inj hF
                  exact at_iret (pc := 128) C hr hlk tq17 ok dX11_count_128
                · have hF := (if_neg c15).symm.trans hF
                  by_cases c18 : v1 = 8
                  · have hF := (if_pos c18).symm.trans hF
                    refine at_tin (pc := 1) (off := 128) (tgt := 129) C dX11_count_1 h1 (by rw [c18]; decide) (by rw [c18]; decide) (by rw [c18]; rfl) rfl ?_
                    refine at_aload_n (pc := 129) C 0 dX11_count_129 rfl rfl ?_
                    refine at_getr (pc := 130) (k' := 33) C 33 fw_11_36 kd0 rfl (Nat.le_of_ble_eq_true rfl) rfl rfl dX11_count_130 ?_
                    refine at_geti (pc := 133) (jz := 1) C fw_11_458 kd33 rfl (Nat.le_of_ble_eq_true rfl) rfl rfl dX11_count_133 ?_
                    obtain rfl := Option.some.inj hF
                    exact at_iret (pc := 136) C hr hlk (ok 33 1) ok dX11_count_136
                  · have hF := (if_neg c18).symm.trans hF
                    by_cases c19 : v1 = 9
                    · have hF := (if_pos c19).symm.trans hF
                      refine at_tin (pc := 1) (off := 136) (tgt := 137) C dX11_count_1 h1 (by rw [c19]; decide) (by rw [c19]; decide) (by rw [c19]; rfl) rfl ?_
                      refine at_aload_n (pc := 137) C 0 dX11_count_137 rfl rfl ?_
                      refine at_getr (pc := 138) (k' := 1) C 1 fw_11_10 kd0 rfl (Nat.le_of_ble_eq_true rfl) rfl rfl dX11_count_138 ?_
                      refine at_geti (pc := 141) (jz := 1) C fw_11_105 kd1 rfl (Nat.le_of_ble_eq_true rfl) rfl rfl dX11_count_141 ?_
                      obtain rfl := Option.some.inj hF
                      exact at_iret (pc := 144) C hr hlk (ok 1 1) ok dX11_count_144
                    · have hF := (if_neg c19).symm.trans hF
                      by_cases c20 : v1 = 10
                      · have hF := (if_pos c20).symm.trans hF
                        refine at_tin (pc := 1) (off := 144) (tgt := 145) C dX11_count_1 h1 (by rw [c20]; decide) (by rw [c20]; decide) (by rw [c20]; rfl) rfl ?_
                        refine at_aload_n (pc := 145) C 0 dX11_count_145 rfl rfl ?_
                        obtain ⟨b21, eb21, kb21, hF⟩ := asB_some hF
                        refine at_getd (pc := 146) (jz := 1) (k2 := b21) C fw_11_19 kd0 rfl (Nat.le_of_ble_eq_true rfl) rfl rfl eb21 dX11_count_146 ?_
                        refine at_geti (pc := 149) (jz := 12) C fw_11_428 kb21 rfl (Nat.le_of_ble_eq_true rfl) rfl rfl dX11_count_149 ?_
                        obtain rfl := Option.some.inj hF
                        exact at_iret (pc := 152) C hr hlk (ok b21 12) ok dX11_count_152
                      · have hF := (if_neg c20).symm.trans hF
                        refine at_tout (pc := 1) (tgt := 153) C h1 dX11_count_1 (by omega) rfl ?_
                        refine at_iconst (pc := 153) C dX11_count_153 ?_
                        obtain rfl := Option.some.inj hF
                        exact at_iret (pc := 154) C hr hlk (show inR (-1) from ⟨by decide, by decide⟩) ok dX11_count_154
abbrev rm_X12_thrown : Room := { frames := 0, cells := 0, slots := 0, locals := 0 }
def F_X12_thrown (N : Nat)  (σ : Sto) : Option (Int) :=
  some (σ.1 94 2)
set_option maxHeartbeats 4000000 in
set_option maxRecDepth 100000 in
theorem c_X12_thrown (l : Launch) (g : Geo) (N : Nat)  (σ : Sto) (res : Int)  (ok : OK σ) (hF : F_X12_thrown N  σ = some res) : MtI l g yX12_thrown cX12_thrown 1 (some .int) rm_X12_thrown [vr g 94] σ res σ inR := by
  intro sz
  refine Met.ofAt (own := RX12) (QQ := fun z => QI g z res σ inR) (by decide +kernel) (Nat.le_of_ble_eq_true rfl) rfl ?_
  intro p e s m args below meth c C hr hlk
  show At p l e rm_X12_thrown s m args below meth c 0 0 g 1 (MQ below (QI g s.heap.size res σ inR) args s 0 0 (AA g s.heap.size)) 0 [(0, vr g 94)] [] σ
  unfold F_X12_thrown at hF
  refine at_aload_n (pc := 0) C 0 dX12_thrown_0 rfl rfl ?_
  refine at_geti (pc := 1) (jz := 2) C fw_12_81 kd94 rfl (Nat.le_of_ble_eq_true rfl) rfl rfl dX12_thrown_1 ?_
  obtain rfl := Option.some.inj hF
  exact at_iret (pc := 4) C hr hlk (ok 94 2) ok dX12_thrown_4
abbrev rm_X12_feed : Room := { frames := 0, cells := 0, slots := 0, locals := 0 }
def F_X12_feed_J113 (N : Nat)   (σ : Sto) : Option (Int × Sto) :=
  some (((upI σ 94 1 (ja (σ.1 94 1) 20)).1 94 1), (upI σ 94 1 (ja (σ.1 94 1) 20)))
def F_X12_feed_J76 (N : Nat) (nx23 : (Int × Sto) → Option (Int × Sto)) (v1 : Int) (v2 : Int) (v3 : Int) (v4 : Int) (v5 : Int) (v6 : Int) (t0 : Int) (σ : Sto) : Option (Int × Sto) :=
  inb (ja (σ.1 94 1) v6) 700 (nx23 ((ja v6 1), (upI σ 95 (ja (σ.1 94 1) v6) (jand (jshr t0 (js 24 (jm 8 (jrem v6 4)))) 255))))
def F_X12_feed_B23 (N : Nat) (nx23 : (Int × Sto) → Option (Int × Sto)) (v1 : Int) (v2 : Int) (v3 : Int) (v4 : Int) (v5 : Int) (v6 : Int) (σ : Sto) : Option (Int × Sto) :=
  if 20 ≤ v6 then (F_X12_feed_J113 N   σ) else (if 4 ≤ v6 then (if 8 ≤ v6 then (if 12 ≤ v6 then (if 16 ≤ v6 then (F_X12_feed_J76 N nx23 v1 v2 v3 v4 v5 v6 v5 σ) else (F_X12_feed_J76 N nx23 v1 v2 v3 v4 v5 v6 v4 σ)) else (F_X12_feed_J76 N nx23 v1 v2 v3 v4 v5 v6 v3 σ)) else (F_X12_feed_J76 N nx23 v1 v2 v3 v4 v5 v6 v2 σ)) else (F_X12_feed_J76 N nx23 v1 v2 v3 v4 v5 v6 v1 σ))
def F_X12_feed (N : Nat) (v1 : Int) (v2 : Int) (v3 : Int) (v4 : Int) (v5 : Int) (σ : Sto) : Option (Int × Sto) :=
  if (ja ((upI σ 94 2 0).1 94 1) 20) ≤ 700 then (loopK (fun q nx23 => F_X12_feed_B23 N  nx23 v1 v2 v3 v4 v5 q.1 q.2) N (0, (upI σ 94 2 0))) else (some ((-1), (upI σ 94 2 0)))
set_option maxHeartbeats 4000000 in
set_option maxRecDepth 100000 in
theorem c_X12_feed (l : Launch) (g : Geo) (N : Nat) (v1 : Int) (v2 : Int) (v3 : Int) (v4 : Int) (v5 : Int) (σ : Sto) (res : Int × Sto) (h1 : inR v1) (h2 : inR v2) (h3 : inR v3) (h4 : inR v4) (h5 : inR v5) (ok : OK σ) (hF : F_X12_feed N v1 v2 v3 v4 v5 σ = some res) : MtI l g yX12_feed cX12_feed 8 (some .int) rm_X12_feed [vr g 94, vi v1, vi v2, vi v3, vi v4, vi v5] σ res.1 res.2 inR := by
  intro sz
  refine Met.ofAt (own := RX12) (QQ := fun z => QI g z res.1 res.2 inR) (by decide +kernel) (Nat.le_of_ble_eq_true rfl) rfl ?_
  intro p e s m args below meth c C hr hlk
  show At p l e rm_X12_feed s m args below meth c 0 0 g 8 (MQ below (QI g s.heap.size res.1 res.2 inR) args s 0 0 (AA g s.heap.size)) 0 [(0, vr g 94), (1, vi v1), (2, vi v2), (3, vi v3), (4, vi v4), (5, vi v5)] [] σ
  unfold F_X12_feed at hF
  refine at_aload_n (pc := 0) C 0 dX12_feed_0 rfl rfl ?_
  refine at_iconst (pc := 1) C dX12_feed_1 ?_
  refine at_puti (pc := 2) (jz := 2) C fu_12_81 kd94 rfl (Nat.le_of_ble_eq_true rfl) rfl rfl dX12_feed_2 ?_
  refine at_aload_n (pc := 5) C 0 dX12_feed_5 rfl rfl ?_
  refine at_geti (pc := 6) (jz := 1) C fw_12_84 kd94 rfl (Nat.le_of_ble_eq_true rfl) rfl rfl dX12_feed_6 ?_
  refine at_bipush (pc := 9) C dX12_feed_9 (by decide) ?_
  refine at_iadd (pc := 11) C dX12_feed_11 ?_
  refine at_sipush (pc := 12) C dX12_feed_12 (by decide) ?_
  refine at_icmp_le (pc := 15) (tgt := 20) C (ja_R ((upI σ 94 2 0).1 94 1) 20) (show inR 700 from ⟨by decide, by decide⟩) dX12_feed_15 rfl (fun c1 => ?_) (fun c1 => ?_)
  · have hF := (if_pos c1).symm.trans hF
    refine at_iconst (pc := 20) C dX12_feed_20 ?_
    refine at_istore (pc := 21) (lv' := [(6, vi 0), (0, vr g 94), (1, vi v1), (2, vi v2), (3, vi v3), (4, vi v4), (5, vi v5)]) C dX12_feed_21 (Nat.le_of_ble_eq_true rfl) rfl ?_
    have L23 : ∀ (v1 : Int) (v2 : Int) (v3 : Int) (v4 : Int) (v5 : Int) (v6 : Int) (σ : Sto), inR v1 → inR v2 → inR v3 → inR v4 → inR v5 → inR v6 → OK σ → loopK (fun q nx23 => F_X12_feed_B23 N  nx23 v1 v2 v3 v4 v5 q.1 q.2) N (v6, σ) = some res → At p l e rm_X12_feed s m args below meth c 0 0 g 8 (MQ below (QI g s.heap.size res.1 res.2 inR) args s 0 0 (AA g s.heap.size)) 23 [(0, vr g 94), (1, vi v1), (2, vi v2), (3, vi v3), (4, vi v4), (5, vi v5), (6, vi v6)] [] σ := by
      intro v1 v2 v3 v4 v5 v6 σ h1 h2 h3 h4 h5 h6 ok hF
      refine loopK_ind (res := res) (P := fun (q : Int × Sto) => inR q.1 → OK q.2 → At p l e rm_X12_feed s m args below meth c 0 0 g 8 (MQ below (QI g s.heap.size res.1 res.2 inR) args s 0 0 (AA g s.heap.size)) 23 [(0, vr g 94), (1, vi v1), (2, vi v2), (3, vi v3), (4, vi v4), (5, vi v5), (6, vi q.1)] [] q.2) ?_ N _ hF h6 ok
      intro nx23 q ih23 hF
      obtain ⟨v6, σ⟩ := q
      intro h6 ok
      have hF : F_X12_feed_B23 N  nx23 v1 v2 v3 v4 v5 v6 σ = some res := hF
      unfold F_X12_feed_B23 at hF
      have J113 : ∀  (σ : Sto), OK σ → F_X12_feed_J113 N   σ = some res → At p l e rm_X12_feed s m args below meth c 0 0 g 8 (MQ below (QI g s.heap.size res.1 res.2 inR) args s 0 0 (AA g s.heap.size)) 113 [(0, vr g 94)] [] σ := by
        intro σ ok hF
        unfold F_X12_feed_J113 at hF
        refine at_aload_n (pc := 113) C 0 dX12_feed_113 rfl rfl ?_
        refine at_dup (pc := 114) C dX12_feed_114 rfl ?_
        refine at_geti (pc := 115) (jz := 1) C fw_12_84 kd94 rfl (Nat.le_of_ble_eq_true rfl) rfl rfl dX12_feed_115 ?_
        refine at_bipush (pc := 118) C dX12_feed_118 (by decide) ?_
        refine at_iadd (pc := 120) C dX12_feed_120 ?_
        refine at_puti (pc := 121) (jz := 1) C fu_12_84 kd94 rfl (Nat.le_of_ble_eq_true rfl) rfl rfl dX12_feed_121 ?_
        refine at_aload_n (pc := 124) C 0 dX12_feed_124 rfl rfl ?_
        refine at_geti (pc := 125) (jz := 1) C fw_12_84 kd94 rfl (Nat.le_of_ble_eq_true rfl) rfl rfl dX12_feed_125 ?_
        obtain rfl := Option.some.inj hF
        exact at_iret (pc := 128) C hr hlk (show inR ((upI σ 94 1 (ja (σ.1 94 1) 20)).1 94 1) from ((OK_up (k := 94) (j := 1) ok (ja_R (σ.1 94 1) 20)) 94 1)) (OK_up (k := 94) (j := 1) ok (ja_R (σ.1 94 1) 20)) dX12_feed_128
      refine at_iload (pc := 23) C 6 dX12_feed_23 rfl ?_
      refine at_bipush (pc := 25) C dX12_feed_25 (by decide) ?_
      refine at_icmp_ge (pc := 27) (tgt := 113) C h6 (show inR 20 from ⟨by decide, by decide⟩) dX12_feed_27 rfl (fun c2 => ?_) (fun c2 => ?_)
      · have hF := (if_pos c2).symm.trans hF
        refine at_sub (lv' := [(0, vr g 94)]) [0] rfl ?_
        exact J113 σ ok hF
      · have hF := (if_neg c2).symm.trans hF
        have J76 : ∀ (v6 : Int) (t0 : Int) (σ : Sto), inR v6 → inR t0 → OK σ → F_X12_feed_J76 N nx23 v1 v2 v3 v4 v5 v6 t0 σ = some res → At p l e rm_X12_feed s m args below meth c 0 0 g 8 (MQ below (QI g s.heap.size res.1 res.2 inR) args s 0 0 (AA g s.heap.size)) 76 [(0, vr g 94), (1, vi v1), (2, vi v2), (3, vi v3), (4, vi v4), (5, vi v5), (6, vi v6)] [vi t0] σ := by
          intro v6 t0 σ h6 ht0 ok hF
          unfold F_X12_feed_J76 at hF
          refine at_istore (pc := 76) (lv' := [(7, vi t0), (0, vr g 94), (1, vi v1), (2, vi v2), (3, vi v3), (4, vi v4), (5, vi v5), (6, vi v6)]) C dX12_feed_76 (Nat.le_of_ble_eq_true rfl) rfl ?_
          refine at_aload_n (pc := 78) C 1 dX12_feed_78 rfl rfl ?_
          refine at_getr (pc := 79) (k' := 95) C 1 fw_12_7 kd94 rfl (Nat.le_of_ble_eq_true rfl) rfl rfl dX12_feed_79 ?_
          refine at_aload_n (pc := 82) C 1 dX12_feed_82 rfl rfl ?_
          refine at_geti (pc := 83) (jz := 1) C fw_12_84 kd94 rfl (Nat.le_of_ble_eq_true rfl) rfl rfl dX12_feed_83 ?_
          refine at_iload (pc := 86) C 7 dX12_feed_86 rfl ?_
          refine at_iadd (pc := 88) C dX12_feed_88 ?_
          refine at_iload (pc := 89) C 0 dX12_feed_89 rfl ?_
          refine at_bipush (pc := 91) C dX12_feed_91 (by decide) ?_
          refine at_bipush (pc := 93) C dX12_feed_93 (by decide) ?_
          refine at_iload (pc := 95) C 7 dX12_feed_95 rfl ?_
          refine at_iconst (pc := 97) C dX12_feed_97 ?_
          refine at_irem (pc := 98) C dX12_feed_98 (show inR 4 from ⟨by decide, by decide⟩) (by decide) ?_
          refine at_imul (pc := 99) C dX12_feed_99 ?_
          refine at_isub (pc := 100) C dX12_feed_100 ?_
          refine at_ishr (pc := 101) C dX12_feed_101 ?_
          refine at_sipush (pc := 102) C dX12_feed_102 (by decide) ?_
          refine at_iand (pc := 105) C dX12_feed_105 ?_
          obtain ⟨b3, hF⟩ := inb_some hF
          refine at_iastore (pc := 106) C kd95 b3 dX12_feed_106 ?_
          refine at_iinc (pc := 107) (lv' := [(6, vi (ja v6 1)), (7, vi t0), (0, vr g 94), (1, vi v1), (2, vi v2), (3, vi v3), (4, vi v4), (5, vi v5)]) C 7 dX12_feed_107 rfl (Nat.le_of_ble_eq_true rfl) rfl ?_
          refine at_goto (pc := 110) (tgt := 23) C dX12_feed_110 rfl ?_
          refine at_sub (lv' := [(0, vr g 94), (1, vi v1), (2, vi v2), (3, vi v3), (4, vi v4), (5, vi v5), (6, vi (ja v6 1))]) [2, 3, 4, 5, 6, 7, 0] rfl ?_
          exact ih23 _ hF (ja_R v6 1) (OK_up (k := 95) (j := (ja (σ.1 94 1) v6)) ok (jand_R (jshr t0 (js 24 (jm 8 (jrem v6 4)))) 255))
        refine at_iload (pc := 30) C 6 dX12_feed_30 rfl ?_
        refine at_iconst (pc := 32) C dX12_feed_32 ?_
        refine at_icmp_ge (pc := 33) (tgt := 40) C h6 (show inR 4 from ⟨by decide, by decide⟩) dX12_feed_33 rfl (fun c4 => ?_) (fun c4 => ?_)
        · have hF := (if_pos c4).symm.trans hF
          refine at_iload (pc := 40) C 6 dX12_feed_40 rfl ?_
          refine at_bipush (pc := 42) C dX12_feed_42 (by decide) ?_
          refine at_icmp_ge (pc := 44) (tgt := 51) C h6 (show inR 8 from ⟨by decide, by decide⟩) dX12_feed_44 rfl (fun c5 => ?_) (fun c5 => ?_)
          · have hF := (if_pos c5).symm.trans hF
            refine at_iload (pc := 51) C 6 dX12_feed_51 rfl ?_
            refine at_bipush (pc := 53) C dX12_feed_53 (by decide) ?_
            refine at_icmp_ge (pc := 55) (tgt := 62) C h6 (show inR 12 from ⟨by decide, by decide⟩) dX12_feed_55 rfl (fun c6 => ?_) (fun c6 => ?_)
            · have hF := (if_pos c6).symm.trans hF
              refine at_iload (pc := 62) C 6 dX12_feed_62 rfl ?_
              refine at_bipush (pc := 64) C dX12_feed_64 (by decide) ?_
              refine at_icmp_ge (pc := 66) (tgt := 74) C h6 (show inR 16 from ⟨by decide, by decide⟩) dX12_feed_66 rfl (fun c7 => ?_) (fun c7 => ?_)
              · have hF := (if_pos c7).symm.trans hF
                refine at_iload (pc := 74) C 5 dX12_feed_74 rfl ?_
                exact J76 v6 v5 σ h6 h5 ok hF
              · have hF := (if_neg c7).symm.trans hF
                refine at_iload (pc := 69) C 4 dX12_feed_69 rfl ?_
                refine at_goto (pc := 71) (tgt := 76) C dX12_feed_71 rfl ?_
                exact J76 v6 v4 σ h6 h4 ok hF
            · have hF := (if_neg c6).symm.trans hF
              refine at_iload_n (pc := 58) C 3 dX12_feed_58 rfl rfl ?_
              refine at_goto (pc := 59) (tgt := 76) C dX12_feed_59 rfl ?_
              exact J76 v6 v3 σ h6 h3 ok hF
          · have hF := (if_neg c5).symm.trans hF
            refine at_iload_n (pc := 47) C 2 dX12_feed_47 rfl rfl ?_
            refine at_goto (pc := 48) (tgt := 76) C dX12_feed_48 rfl ?_
            exact J76 v6 v2 σ h6 h2 ok hF
        · have hF := (if_neg c4).symm.trans hF
          refine at_iload_n (pc := 36) C 1 dX12_feed_36 rfl rfl ?_
          refine at_goto (pc := 37) (tgt := 76) C dX12_feed_37 rfl ?_
          exact J76 v6 v1 σ h6 h1 ok hF
    refine at_sub (lv' := [(0, vr g 94), (1, vi v1), (2, vi v2), (3, vi v3), (4, vi v4), (5, vi v5), (6, vi 0)]) [1, 2, 3, 4, 5, 6, 0] rfl ?_
    exact L23 v1 v2 v3 v4 v5 0 (upI σ 94 2 0) h1 h2 h3 h4 h5 (isB.r (Or.inl rfl)) (OK_up (k := 94) (j := 2) ok (isB.r (Or.inl rfl))) hF
  · have hF := (if_neg c1).symm.trans hF
    refine at_iconst (pc := 18) C dX12_feed_18 ?_
    obtain rfl := Option.some.inj hF
    exact at_iret (pc := 19) C hr hlk (show inR (-1) from ⟨by decide, by decide⟩) (OK_up (k := 94) (j := 2) ok (isB.r (Or.inl rfl))) dX12_feed_19
