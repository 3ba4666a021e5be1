abbrev rm_X11_claimsExceedBounds : Room := { frames := 1, cells := 0, slots := 0, locals := 24 }
def F_X11_claimsExceedBounds_B2 (N : Nat) (nx2 : (Int) → Option (Int))  (v1 : Int) (σ : Sto) : Option (Int) :=
  if (σ.1 29 3) ≤ v1 then (some 0) else (inb v1 30 ((F_X5_takenOn N 29 (σ.1 30 v1) (σ.1 31 v1) σ).bind (fun q3 => inb (ja (jm (σ.1 30 v1) 12) (σ.1 31 v1)) 144 (if q3 ≤ (σ.1 56 (ja (jm (σ.1 30 v1) 12) (σ.1 31 v1))) then (nx2 (ja v1 1)) else (some 1)))))
def F_X11_claimsExceedBounds (N : Nat)  (σ : Sto) : Option (Int) :=
  loopK (fun q nx2 => F_X11_claimsExceedBounds_B2 N  nx2  q σ) N 0
set_option maxHeartbeats 4000000 in
set_option maxRecDepth 100000 in
theorem c_X11_claimsExceedBounds (l : Launch) (g : Geo) (N : Nat)  (σ : Sto) (res : Int)  (ok : OK σ) (hF : F_X11_claimsExceedBounds N  σ = some res) : MtI l g yX11_claimsExceedBounds cX11_claimsExceedBounds 4 (some .boolean) rm_X11_claimsExceedBounds [vr g 0] σ res σ isB := by
  intro sz
  refine Met.ofAt (own := RX11) (QQ := fun z => QI g z res σ isB) (by decide +kernel) (Nat.le_of_ble_eq_true rfl) rfl ?_
  intro p e s m args below meth c C hr hlk
  show At p l e rm_X11_claimsExceedBounds s m args below meth c 0 0 g 4 (MQ below (QI g s.heap.size res σ isB) args s 0 0 (AA g s.heap.size)) 0 [(0, vr g 0)] [] σ
  unfold F_X11_claimsExceedBounds at hF
  refine at_iconst (pc := 0) C dX11_claimsExceedBounds_0 ?_
  refine at_istore_n (pc := 1) (lv' := [(1, vi 0), (0, vr g 0)]) C dX11_claimsExceedBounds_1 rfl (Nat.le_of_ble_eq_true rfl) rfl ?_
  have L2 : ∀ (v1 : Int), inR v1 → loopK (fun q nx2 => F_X11_claimsExceedBounds_B2 N  nx2  q σ) N v1 = some res → At p l e rm_X11_claimsExceedBounds s m args below meth c 0 0 g 4 (MQ below (QI g s.heap.size res σ isB) args s 0 0 (AA g s.heap.size)) 2 [(0, vr g 0), (1, vi v1)] [] σ := by
    intro v1 h1 hF
    refine loopK_ind (res := res) (P := fun (q : Int) => inR q → At p l e rm_X11_claimsExceedBounds s m args below meth c 0 0 g 4 (MQ below (QI g s.heap.size res σ isB) args s 0 0 (AA g s.heap.size)) 2 [(0, vr g 0), (1, vi q)] [] σ) ?_ N _ hF h1
    intro nx2 v1 ih2 hF h1
    have hF : F_X11_claimsExceedBounds_B2 N  nx2  v1 σ = some res := hF
    unfold F_X11_claimsExceedBounds_B2 at hF
    refine at_iload_n (pc := 2) C 1 dX11_claimsExceedBounds_2 rfl rfl ?_
    refine at_aload_n (pc := 3) C 0 dX11_claimsExceedBounds_3 rfl rfl ?_
    refine at_getr (pc := 4) (k' := 29) C 29 fw_11_29 kd0 rfl (Nat.le_of_ble_eq_true rfl) rfl rfl dX11_claimsExceedBounds_4 ?_
    refine at_geti (pc := 7) (jz := 3) C fw_11_273 kd29 rfl (Nat.le_of_ble_eq_true rfl) rfl rfl dX11_claimsExceedBounds_7 ?_
    refine at_icmp_ge (pc := 10) (tgt := 67) C h1 (ok 29 3) dX11_claimsExceedBounds_10 rfl (fun c1 => ?_) (fun c1 => ?_)
    · have hF := (if_pos c1).symm.trans hF
      refine at_iconst (pc := 67) C dX11_claimsExceedBounds_67 ?_
      obtain rfl := Option.some.inj hF
      exact at_zret (pc := 68) C hr hlk (Or.inl rfl) ok dX11_claimsExceedBounds_68
    · have hF := (if_neg c1).symm.trans hF
      refine at_aload_n (pc := 13) C 0 dX11_claimsExceedBounds_13 rfl rfl ?_
      refine at_getr (pc := 14) (k' := 29) C 29 fw_11_29 kd0 rfl (Nat.le_of_ble_eq_true rfl) rfl rfl dX11_claimsExceedBounds_14 ?_
      refine at_getr (pc := 17) (k' := 30) C 1 fw_11_274 kd29 rfl (Nat.le_of_ble_eq_true rfl) rfl rfl dX11_claimsExceedBounds_17 ?_
      refine at_iload_n (pc := 20) C 1 dX11_claimsExceedBounds_20 rfl rfl ?_
      obtain ⟨b2, hF⟩ := inb_some hF
      refine at_iaload (pc := 21) C kd30 b2 dX11_claimsExceedBounds_21 ?_
      refine at_istore_n (pc := 22) (lv' := [(2, vi (σ.1 30 v1)), (0, vr g 0), (1, vi v1)]) C dX11_claimsExceedBounds_22 rfl (Nat.le_of_ble_eq_true rfl) rfl ?_
      refine at_aload_n (pc := 23) C 1 dX11_claimsExceedBounds_23 rfl rfl ?_
      refine at_getr (pc := 24) (k' := 29) C 29 fw_11_29 kd0 rfl (Nat.le_of_ble_eq_true rfl) rfl rfl dX11_claimsExceedBounds_24 ?_
      refine at_getr (pc := 27) (k' := 31) C 2 fw_11_277 kd29 rfl (Nat.le_of_ble_eq_true rfl) rfl rfl dX11_claimsExceedBounds_27 ?_
      refine at_iload_n (pc := 30) C 2 dX11_claimsExceedBounds_30 rfl rfl ?_
      refine at_iaload (pc := 31) C kd31 b2 dX11_claimsExceedBounds_31 ?_
      refine at_istore_n (pc := 32) (lv' := [(3, vi (σ.1 31 v1)), (2, vi (σ.1 30 v1)), (0, vr g 0), (1, vi v1)]) C dX11_claimsExceedBounds_32 rfl (Nat.le_of_ble_eq_true rfl) rfl ?_
      refine at_aload_n (pc := 33) C 2 dX11_claimsExceedBounds_33 rfl rfl ?_
      refine at_getr (pc := 34) (k' := 29) C 29 fw_11_29 kd0 rfl (Nat.le_of_ble_eq_true rfl) rfl rfl dX11_claimsExceedBounds_34 ?_
      refine at_iload_n (pc := 37) C 1 dX11_claimsExceedBounds_37 rfl rfl ?_
      refine at_iload_n (pc := 38) C 0 dX11_claimsExceedBounds_38 rfl rfl ?_
      obtain ⟨q3, eq3, hF⟩ := bind_some' hF
      refine at_callV (pc := 39) (ci := 5) C (c_X5_takenOn l g N 29 (σ.1 30 v1) (σ.1 31 v1) σ q3 kd29 (ok 30 v1) (ok 31 v1) ok eq3) kv_X5_takenOn w869 kd29 rfl rfl rfl rfl (Nat.le_of_ble_eq_true rfl) ⟨rfl, rfl, (Nat.le_of_ble_eq_true rfl), (Nat.le_of_ble_eq_true rfl)⟩ dX11_claimsExceedBounds_39 (fun tq3 okq3 => ?_)
      refine at_aload_n (pc := 42) C 2 dX11_claimsExceedBounds_42 rfl rfl ?_
      refine at_getr (pc := 43) (k' := 55) C 55 fw_11_64 kd0 rfl (Nat.le_of_ble_eq_true rfl) rfl rfl dX11_claimsExceedBounds_43 ?_
      refine at_getr (pc := 46) (k' := 56) C 1 fw_11_283 kd55 rfl (Nat.le_of_ble_eq_true rfl) rfl rfl dX11_claimsExceedBounds_46 ?_
      refine at_iload_n (pc := 49) C 1 dX11_claimsExceedBounds_49 rfl rfl ?_
      refine at_bipush (pc := 50) C dX11_claimsExceedBounds_50 (by decide) ?_
      refine at_imul (pc := 52) C dX11_claimsExceedBounds_52 ?_
      refine at_iload_n (pc := 53) C 0 dX11_claimsExceedBounds_53 rfl rfl ?_
      refine at_iadd (pc := 54) C dX11_claimsExceedBounds_54 ?_
      obtain ⟨b4, hF⟩ := inb_some hF
      refine at_iaload (pc := 55) C kd56 b4 dX11_claimsExceedBounds_55 ?_
      refine at_icmp_le (pc := 56) (tgt := 61) C tq3 (ok 56 (ja (jm (σ.1 30 v1) 12) (σ.1 31 v1))) dX11_claimsExceedBounds_56 rfl (fun c5 => ?_) (fun c5 => ?_)
      · have hF := (if_pos c5).symm.trans hF
        refine at_iinc (pc := 61) (lv' := [(1, vi (ja v1 1)), (3, vi (σ.1 31 v1)), (2, vi (σ.1 30 v1)), (0, vr g 0)]) C 3 dX11_claimsExceedBounds_61 rfl (Nat.le_of_ble_eq_true rfl) rfl ?_
        refine at_goto (pc := 64) (tgt := 2) C dX11_claimsExceedBounds_64 rfl ?_
        refine at_sub (lv' := [(0, vr g 0), (1, vi (ja v1 1))]) [3, 0] rfl ?_
        exact ih2 _ hF (ja_R v1 1)
      · have hF := (if_neg c5).symm.trans hF
        refine at_iconst (pc := 59) C dX11_claimsExceedBounds_59 ?_
        obtain rfl := Option.some.inj hF
        exact at_zret (pc := 60) C hr hlk (Or.inr rfl) ok dX11_claimsExceedBounds_60
  refine at_sub (lv' := [(0, vr g 0), (1, vi 0)]) [1, 0] rfl ?_
  exact L2 0 (isB.r (Or.inl rfl)) hF
abbrev rm_X11_own : Room := { frames := 5, cells := 0, slots := 0, locals := 130 }
def F_X11_own (N : Nat) (v1 : Int) (v2 : Int) (v3 : Int) (v4 : Int) (σ : Sto) : Option (Int × Sto) :=
  (F_X11_isPair N v1 v2 σ).bind (fun q1 => if q1 = 0 then (some ((-1), σ)) else (if v2 < v1 then (some ((-1), σ)) else ((F_X11_isDay N v4 σ).bind (fun q4 => if q4 = 0 then (some ((-1), σ)) else (if v3 < 0 then (some ((-1), σ)) else (if v3 ≤ 100 then (asB (σ.1 0 1) (fun b8 => if (σ.1 (b8 + 8) 4) < 24 then (asB (σ.1 0 1) (fun b10 => (F_X7_add N (b10 + 8) v1 v2 v3 v4 σ).bind (fun q11 => (F_X11_forgetNet N q11).bind (fun q12 => (F_X11_refreshNet N q12).bind (fun q13 => (F_X11_claimsExceedBounds N q13).bind (fun q14 => if q14 = 0 then ((F_X2_push N 3 0 0 0 0 q13).bind (fun q16 => asB (q16.1 0 1) (fun b17 => some ((q16.1 (b17 + 8) 4), q16)))) else (asB (q13.1 0 1) (fun b18 => (F_X7_dropLast N (b18 + 8) q13).bind (fun q19 => (F_X11_forgetNet N q19).bind (fun q20 => some ((-3), q20))))))))))) else (some ((-2), σ)))) else (some ((-1), σ))))))))
set_option maxHeartbeats 4000000 in
set_option maxRecDepth 100000 in
theorem c_X11_own (l : Launch) (g : Geo) (N : Nat) (v1 : Int) (v2 : Int) (v3 : Int) (v4 : Int) (σ : Sto) (res : Int × Sto) (h1 : inR v1) (h2 : inR v2) (h3 : inR v3) (h4 : inR v4) (ok : OK σ) (hF : F_X11_own N v1 v2 v3 v4 σ = some res) : MtI l g yX11_own cX11_own 5 (some .int) rm_X11_own [vr g 0, vi v1, vi v2, vi v3, vi v4] σ res.1 res.2 inR := by
  intro sz
  refine Met.ofAt (own := RX11) (QQ := fun z => QI g z res.1 res.2 inR) (by decide +kernel) (Nat.le_of_ble_eq_true rfl) rfl ?_
  intro p e s m args below meth c C hr hlk
  show At p l e rm_X11_own s m args below meth c 0 0 g 5 (MQ below (QI g s.heap.size res.1 res.2 inR) args s 0 0 (AA g s.heap.size)) 0 [(0, vr g 0), (1, vi v1), (2, vi v2), (3, vi v3), (4, vi v4)] [] σ
  unfold F_X11_own at hF
  refine at_aload_n (pc := 0) C 0 dX11_own_0 rfl rfl ?_
  refine at_iload_n (pc := 1) C 1 dX11_own_1 rfl rfl ?_
  refine at_iload_n (pc := 2) C 2 dX11_own_2 rfl rfl ?_
  obtain ⟨q1, eq1, hF⟩ := bind_some' hF
  refine at_callV (pc := 3) (ci := 11) C (c_X11_isPair l g N v1 v2 σ q1 h1 h2 ok eq1) kv_X11_isPair w716 kd0 rfl rfl rfl rfl (Nat.le_of_ble_eq_true rfl) ⟨rfl, rfl, (Nat.le_of_ble_eq_true rfl), (Nat.le_of_ble_eq_true rfl)⟩ dX11_own_3 (fun tq1 okq1 => ?_)
  refine at_if_eq (pc := 6) (tgt := 32) C (isB.r tq1) dX11_own_6 rfl (fun c2 => ?_) (fun c2 => ?_)
  · have hF := (if_pos c2).symm.trans hF
    refine at_iconst (pc := 32) C dX11_own_32 ?_
    obtain rfl := Option.some.inj hF
    exact at_iret (pc := 33) C hr hlk (show inR (-1) from ⟨by decide, by decide⟩) ok dX11_own_33
  · have hF := (if_neg c2).symm.trans hF
    refine at_iload_n (pc := 9) C 1 dX11_own_9 rfl rfl ?_
    refine at_iload_n (pc := 10) C 2 dX11_own_10 rfl rfl ?_
    refine at_icmp_gt (pc := 11) (tgt := 32) C h1 h2 dX11_own_11 rfl (fun c3 => ?_) (fun c3 => ?_)
    · have hF := (if_pos c3).symm.trans hF
      refine at_iconst (pc := 32) C dX11_own_32 ?_
      obtain rfl := Option.some.inj hF
      exact at_iret (pc := 33) C hr hlk (show inR (-1) from ⟨by decide, by decide⟩) ok dX11_own_33
    · have hF := (if_neg c3).symm.trans hF
      refine at_iload (pc := 14) C 4 dX11_own_14 rfl ?_
      obtain ⟨q4, eq4, hF⟩ := bind_some' hF
      refine at_callS (pc := 16) C (c_X11_isDay l g N v4 σ q4 h4 ok eq4) ks_X11_isDay w728 rfl rfl (Nat.le_of_ble_eq_true rfl) ⟨rfl, rfl, (Nat.le_of_ble_eq_true rfl), (Nat.le_of_ble_eq_true rfl)⟩ dX11_own_16 (fun tq4 okq4 => ?_)
      refine at_if_eq (pc := 19) (tgt := 32) C (isB.r tq4) dX11_own_19 rfl (fun c5 => ?_) (fun c5 => ?_)
      · have hF := (if_pos c5).symm.trans hF
        refine at_iconst (pc := 32) C dX11_own_32 ?_
        obtain rfl := Option.some.inj hF
        exact at_iret (pc := 33) C hr hlk (show inR (-1) from ⟨by decide, by decide⟩) ok dX11_own_33
      · have hF := (if_neg c5).symm.trans hF
        refine at_iload_n (pc := 22) C 3 dX11_own_22 rfl rfl ?_
        refine at_if_lt (pc := 23) (tgt := 32) C h3 dX11_own_23 rfl (fun c6 => ?_) (fun c6 => ?_)
        · have hF := (if_pos c6).symm.trans hF
          refine at_iconst (pc := 32) C dX11_own_32 ?_
          obtain rfl := Option.some.inj hF
          exact at_iret (pc := 33) C hr hlk (show inR (-1) from ⟨by decide, by decide⟩) ok dX11_own_33
        · have hF := (if_neg c6).symm.trans hF
          refine at_iload_n (pc := 26) C 3 dX11_own_26 rfl rfl ?_
          refine at_bipush (pc := 27) C dX11_own_27 (by decide) ?_
          refine at_icmp_le (pc := 29) (tgt := 34) C h3 (show inR 100 from ⟨by decide, by decide⟩) dX11_own_29 rfl (fun c7 => ?_) (fun c7 => ?_)
          · have hF := (if_pos c7).symm.trans hF
            refine at_aload_n (pc := 34) C 0 dX11_own_34 rfl rfl ?_
            obtain ⟨b8, eb8, kb8, hF⟩ := asB_some hF
            refine at_getd (pc := 35) (jz := 1) (k2 := b8) C fw_11_19 kd0 rfl (Nat.le_of_ble_eq_true rfl) rfl rfl eb8 dX11_own_35 ?_
            refine at_getr (pc := 38) C 8 fw_11_250 kb8 rfl (Nat.le_of_ble_eq_true rfl) rfl rfl dX11_own_38 ?_
            refine at_geti (pc := 41) (jz := 4) C fw_11_253 (kf0_7 kb8) rfl (Nat.le_of_ble_eq_true rfl) rfl rfl dX11_own_41 ?_
            refine at_bipush (pc := 44) C dX11_own_44 (by decide) ?_
            refine at_icmp_lt (pc := 46) (tgt := 52) C (ok (b8 + 8) 4) (show inR 24 from ⟨by decide, by decide⟩) dX11_own_46 rfl (fun c9 => ?_) (fun c9 => ?_)
            · have hF := (if_pos c9).symm.trans hF
              refine at_aload_n (pc := 52) C 0 dX11_own_52 rfl rfl ?_
              obtain ⟨b10, eb10, kb10, hF⟩ := asB_some hF
              refine at_getd (pc := 53) (jz := 1) (k2 := b10) C fw_11_19 kd0 rfl (Nat.le_of_ble_eq_true rfl) rfl rfl eb10 dX11_own_53 ?_
              refine at_getr (pc := 56) C 8 fw_11_250 kb10 rfl (Nat.le_of_ble_eq_true rfl) rfl rfl dX11_own_56 ?_
              refine at_iload_n (pc := 59) C 1 dX11_own_59 rfl rfl ?_
              refine at_iload_n (pc := 60) C 2 dX11_own_60 rfl rfl ?_
              refine at_iload_n (pc := 61) C 3 dX11_own_61 rfl rfl ?_
              refine at_iload (pc := 62) C 4 dX11_own_62 rfl ?_
              obtain ⟨q11, eq11, hF⟩ := bind_some' hF
              refine at_callVv (pc := 64) (ci := 7) C (c_X7_add l g N (b10 + 8) v1 v2 v3 v4 σ q11 (kf0_7 kb10) h1 h2 h3 h4 ok eq11) kv_X7_add w864 (kf0_7 kb10) rfl rfl rfl rfl (Nat.le_of_ble_eq_true rfl) ⟨rfl, rfl, (Nat.le_of_ble_eq_true rfl), (Nat.le_of_ble_eq_true rfl)⟩ dX11_own_64 (fun okq11 => ?_)
              refine at_aload_n (pc := 67) C 0 dX11_own_67 rfl rfl ?_
              obtain ⟨q12, eq12, hF⟩ := bind_some' hF
              refine at_callVv (pc := 68) (ci := 11) C (c_X11_forgetNet l g N  q11 q12  okq11 eq12) kv_X11_forgetNet w679 kd0 rfl rfl rfl rfl (Nat.le_of_ble_eq_true rfl) ⟨rfl, rfl, (Nat.le_of_ble_eq_true rfl), (Nat.le_of_ble_eq_true rfl)⟩ dX11_own_68 (fun okq12 => ?_)
              refine at_aload_n (pc := 71) C 0 dX11_own_71 rfl rfl ?_
              obtain ⟨q13, eq13, hF⟩ := bind_some' hF
              refine at_callVv (pc := 72) (ci := 11) C (c_X11_refreshNet l g N  q12 q13  okq12 eq13) kv_X11_refreshNet w791 kd0 rfl rfl rfl rfl (Nat.le_of_ble_eq_true rfl) ⟨rfl, rfl, (Nat.le_of_ble_eq_true rfl), (Nat.le_of_ble_eq_true rfl)⟩ dX11_own_72 (fun okq13 => ?_)
              refine at_aload_n (pc := 75) C 0 dX11_own_75 rfl rfl ?_
              obtain ⟨q14, eq14, hF⟩ := bind_some' hF
              refine at_callV (pc := 76) (ci := 11) C (c_X11_claimsExceedBounds l g N  q13 q14  okq13 eq14) kv_X11_claimsExceedBounds w865 kd0 rfl rfl rfl rfl (Nat.le_of_ble_eq_true rfl) ⟨rfl, rfl, (Nat.le_of_ble_eq_true rfl), (Nat.le_of_ble_eq_true rfl)⟩ dX11_own_76 (fun tq14 okq14 => ?_)
              refine at_if_eq (pc := 79) (tgt := 99) C (isB.r tq14) dX11_own_79 rfl (fun c15 => ?_) (fun c15 => ?_)
              · have hF := (if_pos c15).symm.trans hF
                refine at_aload_n (pc := 99) C 0 dX11_own_99 rfl rfl ?_
                refine at_getr (pc := 100) (k' := 33) C 33 fw_11_36 kd0 rfl (Nat.le_of_ble_eq_true rfl) rfl rfl dX11_own_100 ?_
                refine at_iconst (pc := 103) C dX11_own_103 ?_
                refine at_iconst (pc := 104) C dX11_own_104 ?_
                refine at_iconst (pc := 105) C dX11_own_105 ?_
                refine at_iconst (pc := 106) C dX11_own_106 ?_
                refine at_iconst (pc := 107) C dX11_own_107 ?_
                obtain ⟨q16, eq16, hF⟩ := bind_some' hF
                refine at_callVv (pc := 108) (ci := 2) C (c_X2_push l g N 3 0 0 0 0 q13 q16 (show inR 3 from ⟨by decide, by decide⟩) (isB.r (Or.inl rfl)) (isB.r (Or.inl rfl)) (isB.r (Or.inl rfl)) (isB.r (Or.inl rfl)) okq13 eq16) kv_X2_push w878 kd33 rfl rfl rfl rfl (Nat.le_of_ble_eq_true rfl) ⟨rfl, rfl, (Nat.le_of_ble_eq_true rfl), (Nat.le_of_ble_eq_true rfl)⟩ dX11_own_108 (fun okq16 => ?_)
                refine at_aload_n (pc := 111) C 0 dX11_own_111 rfl rfl ?_
                obtain ⟨b17, eb17, kb17, hF⟩ := asB_some hF
                refine at_getd (pc := 112) (jz := 1) (k2 := b17) C fw_11_19 kd0 rfl (Nat.le_of_ble_eq_true rfl) rfl rfl eb17 dX11_own_112 ?_
                refine at_getr (pc := 115) C 8 fw_11_250 kb17 rfl (Nat.le_of_ble_eq_true rfl) rfl rfl dX11_own_115 ?_
                refine at_geti (pc := 118) (jz := 4) C fw_11_253 (kf0_7 kb17) rfl (Nat.le_of_ble_eq_true rfl) rfl rfl dX11_own_118 ?_
                obtain rfl := Option.some.inj hF
                exact at_iret (pc := 121) C hr hlk (okq16 (b17 + 8) 4) okq16 dX11_own_121
              · have hF := (if_neg c15).symm.trans hF
                refine at_aload_n (pc := 82) C 0 dX11_own_82 rfl rfl ?_
                obtain ⟨b18, eb18, kb18, hF⟩ := asB_some hF
                refine at_getd (pc := 83) (jz := 1) (k2 := b18) C fw_11_19 kd0 rfl (Nat.le_of_ble_eq_true rfl) rfl rfl eb18 dX11_own_83 ?_
                refine at_getr (pc := 86) C 8 fw_11_250 kb18 rfl (Nat.le_of_ble_eq_true rfl) rfl rfl dX11_own_86 ?_
                obtain ⟨q19, eq19, hF⟩ := bind_some' hF
                refine at_callVv (pc := 89) (ci := 7) C (c_X7_dropLast l g N (b18 + 8) q13 q19 (kf0_7 kb18) okq13 eq19) kv_X7_dropLast w873 (kf0_7 kb18) rfl rfl rfl rfl (Nat.le_of_ble_eq_true rfl) ⟨rfl, rfl, (Nat.le_of_ble_eq_true rfl), (Nat.le_of_ble_eq_true rfl)⟩ dX11_own_89 (fun okq19 => ?_)
                refine at_aload_n (pc := 92) C 0 dX11_own_92 rfl rfl ?_
                obtain ⟨q20, eq20, hF⟩ := bind_some' hF
                refine at_callVv (pc := 93) (ci := 11) C (c_X11_forgetNet l g N  q19 q20  okq19 eq20) kv_X11_forgetNet w679 kd0 rfl rfl rfl rfl (Nat.le_of_ble_eq_true rfl) ⟨rfl, rfl, (Nat.le_of_ble_eq_true rfl), (Nat.le_of_ble_eq_true rfl)⟩ dX11_own_93 (fun okq20 => ?_)
                refine at_bipush (pc := 96) C dX11_own_96 (by decide) ?_
                obtain rfl := Option.some.inj hF
                exact at_iret (pc := 98) C hr hlk (show inR (-3) from ⟨by decide, by decide⟩) okq20 dX11_own_98
            · have hF := (if_neg c9).symm.trans hF
              refine at_bipush (pc := 49) C dX11_own_49 (by decide) ?_
              obtain rfl := Option.some.inj hF
              exact at_iret (pc := 51) C hr hlk (show inR (-2) from ⟨by decide, by decide⟩) ok dX11_own_51
          · have hF := (if_neg c7).symm.trans hF
            refine at_iconst (pc := 32) C dX11_own_32 ?_
            obtain rfl := Option.some.inj hF
            exact at_iret (pc := 33) C hr hlk (show inR (-1) from ⟨by decide, by decide⟩) ok dX11_own_33
abbrev rm_X11_shared : Room := { frames := 5, cells := 0, slots := 0, locals := 130 }
def F_X11_shared (N : Nat) (v1 : Int) (v2 : Int) (σ : Sto) : Option (Int × Sto) :=
  asB (σ.1 0 1) (fun b1 => (F_X0_hasPeriod N b1 v1 σ).bind (fun q2 => if q2 = 0 then (some ((-1), σ)) else (asB (σ.1 0 1) (fun b4 => (F_X0_hasPeriod N b4 v2 σ).bind (fun q5 => if q5 = 0 then (some ((-1), σ)) else (asB (σ.1 0 1) (fun b7 => inb v1 12 (asB (σ.1 0 1) (fun b9 => inb v2 12 (if (σ.1 (b7 + 4) v1) = (σ.1 (b9 + 4) v2) then (some ((-1), σ)) else ((F_X11_refreshNet N σ).bind (fun q12 => asB (q12.1 0 1) (fun b13 => asB (q12.1 0 1) (fun b14 => asB (q12.1 0 1) (fun b15 => asB (q12.1 0 1) (fun b16 => asB (q12.1 0 1) (fun b17 => asB (q12.1 0 1) (fun b18 => (F_X4_daysTogether N 52 (q12.1 (b17 + 4) v1) (q12.1 (b18 + 4) v2) (jmax (q12.1 (b13 + 5) v1) (q12.1 (b14 + 5) v2)) (jmin (q12.1 (b15 + 6) v1) (q12.1 (b16 + 6) v2)) q12).bind (fun q19 => some (q19, q12))))))))))))))))))))
set_option maxHeartbeats 4000000 in
set_option maxRecDepth 100000 in
theorem c_X11_shared (l : Launch) (g : Geo) (N : Nat) (v1 : Int) (v2 : Int) (σ : Sto) (res : Int × Sto) (h1 : inR v1) (h2 : inR v2) (ok : OK σ) (hF : F_X11_shared N v1 v2 σ = some res) : MtI l g yX11_shared cX11_shared 5 (some .int) rm_X11_shared [vr g 0, vi v1, vi v2] σ res.1 res.2 inR := by
  intro sz
  refine Met.ofAt (own := RX11) (QQ := fun z => QI g z res.1 res.2 inR) (by decide +kernel) (Nat.le_of_ble_eq_true rfl) rfl ?_
  intro p e s m args below meth c C hr hlk
  show At p l e rm_X11_shared s m args below meth c 0 0 g 5 (MQ below (QI g s.heap.size res.1 res.2 inR) args s 0 0 (AA g s.heap.size)) 0 [(0, vr g 0), (1, vi v1), (2, vi v2)] [] σ
  unfold F_X11_shared at hF
  refine at_aload_n (pc := 0) C 0 dX11_shared_0 rfl rfl ?_
  obtain ⟨b1, eb1, kb1, hF⟩ := asB_some hF
  refine at_getd (pc := 1) (jz := 1) (k2 := b1) C fw_11_19 kd0 rfl (Nat.le_of_ble_eq_true rfl) rfl rfl eb1 dX11_shared_1 ?_
  refine at_iload_n (pc := 4) C 1 dX11_shared_4 rfl rfl ?_
  obtain ⟨q2, eq2, hF⟩ := bind_some' hF
  refine at_callV (pc := 5) (ci := 0) C (c_X0_hasPeriod l g N b1 v1 σ q2 kb1 h1 ok eq2) kv_X0_hasPeriod w696 kb1 rfl rfl rfl rfl (Nat.le_of_ble_eq_true rfl) ⟨rfl, rfl, (Nat.le_of_ble_eq_true rfl), (Nat.le_of_ble_eq_true rfl)⟩ dX11_shared_5 (fun tq2 okq2 => ?_)
  refine at_if_eq (pc := 8) (tgt := 43) C (isB.r tq2) dX11_shared_8 rfl (fun c3 => ?_) (fun c3 => ?_)
  · have hF := (if_pos c3).symm.trans hF
    refine at_iconst (pc := 43) C dX11_shared_43 ?_
    obtain rfl := Option.some.inj hF
    exact at_iret (pc := 44) C hr hlk (show inR (-1) from ⟨by decide, by decide⟩) ok dX11_shared_44
  · have hF := (if_neg c3).symm.trans hF
    refine at_aload_n (pc := 11) C 0 dX11_shared_11 rfl rfl ?_
    obtain ⟨b4, eb4, kb4, hF⟩ := asB_some hF
    refine at_getd (pc := 12) (jz := 1) (k2 := b4) C fw_11_19 kd0 rfl (Nat.le_of_ble_eq_true rfl) rfl rfl eb4 dX11_shared_12 ?_
    refine at_iload_n (pc := 15) C 2 dX11_shared_15 rfl rfl ?_
    obtain ⟨q5, eq5, hF⟩ := bind_some' hF
    refine at_callV (pc := 16) (ci := 0) C (c_X0_hasPeriod l g N b4 v2 σ q5 kb4 h2 ok eq5) kv_X0_hasPeriod w696 kb4 rfl rfl rfl rfl (Nat.le_of_ble_eq_true rfl) ⟨rfl, rfl, (Nat.le_of_ble_eq_true rfl), (Nat.le_of_ble_eq_true rfl)⟩ dX11_shared_16 (fun tq5 okq5 => ?_)
    refine at_if_eq (pc := 19) (tgt := 43) C (isB.r tq5) dX11_shared_19 rfl (fun c6 => ?_) (fun c6 => ?_)
    · have hF := (if_pos c6).symm.trans hF
      refine at_iconst (pc := 43) C dX11_shared_43 ?_
      obtain rfl := Option.some.inj hF
      exact at_iret (pc := 44) C hr hlk (show inR (-1) from ⟨by decide, by decide⟩) ok dX11_shared_44
    · have hF := (if_neg c6).symm.trans hF
      refine at_aload_n (pc := 22) C 0 dX11_shared_22 rfl rfl ?_
      obtain ⟨b7, eb7, kb7, hF⟩ := asB_some hF
      refine at_getd (pc := 23) (jz := 1) (k2 := b7) C fw_11_19 kd0 rfl (Nat.le_of_ble_eq_true rfl) rfl rfl eb7 dX11_shared_23 ?_
      refine at_getr (pc := 26) C 4 fw_11_169 kb7 rfl (Nat.le_of_ble_eq_true rfl) rfl rfl dX11_shared_26 ?_
      refine at_iload_n (pc := 29) C 1 dX11_shared_29 rfl rfl ?_
      obtain ⟨b8, hF⟩ := inb_some hF
      refine at_iaload (pc := 30) C (kf0_3 kb7) b8 dX11_shared_30 ?_
      refine at_aload_n (pc := 31) C 0 dX11_shared_31 rfl rfl ?_
      obtain ⟨b9, eb9, kb9, hF⟩ := asB_some hF
      refine at_getd (pc := 32) (jz := 1) (k2 := b9) C fw_11_19 kd0 rfl (Nat.le_of_ble_eq_true rfl) rfl rfl eb9 dX11_shared_32 ?_
      refine at_getr (pc := 35) C 4 fw_11_169 kb9 rfl (Nat.le_of_ble_eq_true rfl) rfl rfl dX11_shared_35 ?_
      refine at_iload_n (pc := 38) C 2 dX11_shared_38 rfl rfl ?_
      obtain ⟨b10, hF⟩ := inb_some hF
      refine at_iaload (pc := 39) C (kf0_3 kb9) b10 dX11_shared_39 ?_
      refine at_icmp_ne (pc := 40) (tgt := 45) C (ok (b7 + 4) v1) (ok (b9 + 4) v2) dX11_shared_40 rfl (fun c11 => ?_) (fun c11 => ?_)
      · have hF := (if_neg c11).symm.trans hF
        refine at_aload_n (pc := 45) C 0 dX11_shared_45 rfl rfl ?_
        obtain ⟨q12, eq12, hF⟩ := bind_some' hF
        refine at_callVv (pc := 46) (ci := 11) C (c_X11_refreshNet l g N  σ q12  ok eq12) kv_X11_refreshNet w791 kd0 rfl rfl rfl rfl (Nat.le_of_ble_eq_true rfl) ⟨rfl, rfl, (Nat.le_of_ble_eq_true rfl), (Nat.le_of_ble_eq_true rfl)⟩ dX11_shared_46 (fun okq12 => ?_)
        refine at_aload_n (pc := 49) C 0 dX11_shared_49 rfl rfl ?_
        obtain ⟨b13, eb13, kb13, hF⟩ := asB_some hF
        refine at_getd (pc := 50) (jz := 1) (k2 := b13) C fw_11_19 kd0 rfl (Nat.le_of_ble_eq_true rfl) rfl rfl eb13 dX11_shared_50 ?_
        refine at_getr (pc := 53) C 5 fw_11_172 kb13 rfl (Nat.le_of_ble_eq_true rfl) rfl rfl dX11_shared_53 ?_
        refine at_iload_n (pc := 56) C 1 dX11_shared_56 rfl rfl ?_
        refine at_iaload (pc := 57) C (kf0_4 kb13) b8 dX11_shared_57 ?_
        refine at_aload_n (pc := 58) C 0 dX11_shared_58 rfl rfl ?_
        obtain ⟨b14, eb14, kb14, hF⟩ := asB_some hF
        refine at_getd (pc := 59) (jz := 1) (k2 := b14) C fw_11_19 kd0 rfl (Nat.le_of_ble_eq_true rfl) rfl rfl eb14 dX11_shared_59 ?_
        refine at_getr (pc := 62) C 5 fw_11_172 kb14 rfl (Nat.le_of_ble_eq_true rfl) rfl rfl dX11_shared_62 ?_
        refine at_iload_n (pc := 65) C 2 dX11_shared_65 rfl rfl ?_
        refine at_iaload (pc := 66) C (kf0_4 kb14) b10 dX11_shared_66 ?_
        refine at_mmax (pc := 67) C km_max w889 (okq12 (b13 + 5) v1) (okq12 (b14 + 5) v2) ⟨(Nat.le_of_ble_eq_true rfl), (Nat.le_of_ble_eq_true rfl)⟩ dX11_shared_67 ?_
        refine at_istore_n (pc := 70) (lv' := [(3, vi (jmax (q12.1 (b13 + 5) v1) (q12.1 (b14 + 5) v2))), (0, vr g 0), (1, vi v1), (2, vi v2)]) C dX11_shared_70 rfl (Nat.le_of_ble_eq_true rfl) rfl ?_
        refine at_aload_n (pc := 71) C 1 dX11_shared_71 rfl rfl ?_
        obtain ⟨b15, eb15, kb15, hF⟩ := asB_some hF
        refine at_getd (pc := 72) (jz := 1) (k2 := b15) C fw_11_19 kd0 rfl (Nat.le_of_ble_eq_true rfl) rfl rfl eb15 dX11_shared_72 ?_
        refine at_getr (pc := 75) C 6 fw_11_175 kb15 rfl (Nat.le_of_ble_eq_true rfl) rfl rfl dX11_shared_75 ?_
        refine at_iload_n (pc := 78) C 2 dX11_shared_78 rfl rfl ?_
        refine at_iaload (pc := 79) C (kf0_5 kb15) b8 dX11_shared_79 ?_
        refine at_aload_n (pc := 80) C 1 dX11_shared_80 rfl rfl ?_
        obtain ⟨b16, eb16, kb16, hF⟩ := asB_some hF
        refine at_getd (pc := 81) (jz := 1) (k2 := b16) C fw_11_19 kd0 rfl (Nat.le_of_ble_eq_true rfl) rfl rfl eb16 dX11_shared_81 ?_
        refine at_getr (pc := 84) C 6 fw_11_175 kb16 rfl (Nat.le_of_ble_eq_true rfl) rfl rfl dX11_shared_84 ?_
        refine at_iload_n (pc := 87) C 3 dX11_shared_87 rfl rfl ?_
        refine at_iaload (pc := 88) C (kf0_5 kb16) b10 dX11_shared_88 ?_
        refine at_mmin (pc := 89) C km_min w890 (okq12 (b15 + 6) v1) (okq12 (b16 + 6) v2) ⟨(Nat.le_of_ble_eq_true rfl), (Nat.le_of_ble_eq_true rfl)⟩ dX11_shared_89 ?_
        refine at_istore (pc := 92) (lv' := [(4, vi (jmin (q12.1 (b15 + 6) v1) (q12.1 (b16 + 6) v2))), (3, vi (jmax (q12.1 (b13 + 5) v1) (q12.1 (b14 + 5) v2))), (0, vr g 0), (1, vi v1), (2, vi v2)]) C dX11_shared_92 (Nat.le_of_ble_eq_true rfl) rfl ?_
        refine at_aload_n (pc := 94) C 2 dX11_shared_94 rfl rfl ?_
        refine at_getr (pc := 95) (k' := 52) C 52 fw_11_57 kd0 rfl (Nat.le_of_ble_eq_true rfl) rfl rfl dX11_shared_95 ?_
        refine at_aload_n (pc := 98) C 2 dX11_shared_98 rfl rfl ?_
        obtain ⟨b17, eb17, kb17, hF⟩ := asB_some hF
        refine at_getd (pc := 99) (jz := 1) (k2 := b17) C fw_11_19 kd0 rfl (Nat.le_of_ble_eq_true rfl) rfl rfl eb17 dX11_shared_99 ?_
        refine at_getr (pc := 102) C 4 fw_11_169 kb17 rfl (Nat.le_of_ble_eq_true rfl) rfl rfl dX11_shared_102 ?_
        refine at_iload_n (pc := 105) C 3 dX11_shared_105 rfl rfl ?_
        refine at_iaload (pc := 106) C (kf0_3 kb17) b8 dX11_shared_106 ?_
        refine at_aload_n (pc := 107) C 2 dX11_shared_107 rfl rfl ?_
        obtain ⟨b18, eb18, kb18, hF⟩ := asB_some hF
        refine at_getd (pc := 108) (jz := 1) (k2 := b18) C fw_11_19 kd0 rfl (Nat.le_of_ble_eq_true rfl) rfl rfl eb18 dX11_shared_108 ?_
        refine at_getr (pc := 111) C 4 fw_11_169 kb18 rfl (Nat.le_of_ble_eq_true rfl) rfl rfl dX11_shared_111 ?_
        refine at_iload_n (pc := 114) C 4 dX11_shared_114 rfl rfl ?_
        refine at_iaload (pc := 115) C (kf0_3 kb18) b10 dX11_shared_115 ?_
        refine at_iload_n (pc := 116) C 1 dX11_shared_116 rfl rfl ?_
        refine at_iload (pc := 117) C 0 dX11_shared_117 rfl ?_
        obtain ⟨q19, eq19, hF⟩ := bind_some' hF
        refine at_callV (pc := 119) (ci := 4) C (c_X4_daysTogether l g N 52 (q12.1 (b17 + 4) v1) (q12.1 (b18 + 4) v2) (jmax (q12.1 (b13 + 5) v1) (q12.1 (b14 + 5) v2)) (jmin (q12.1 (b15 + 6) v1) (q12.1 (b16 + 6) v2)) q12 q19 kd52 (okq12 (b17 + 4) v1) (okq12 (b18 + 4) v2) (jmax_R (okq12 (b13 + 5) v1) (okq12 (b14 + 5) v2)) (jmin_R (okq12 (b15 + 6) v1) (okq12 (b16 + 6) v2)) okq12 eq19) kv_X4_daysTogether w851 kd52 rfl rfl rfl rfl (Nat.le_of_ble_eq_true rfl) ⟨rfl, rfl, (Nat.le_of_ble_eq_true rfl), (Nat.le_of_ble_eq_true rfl)⟩ dX11_shared_119 (fun tq19 okq19 => ?_)
        obtain rfl := Option.some.inj hF
        exact at_iret (pc := 122) C hr hlk tq19 okq12 dX11_shared_122
      · have hF := (if_pos c11).symm.trans hF
        refine at_iconst (pc := 43) C dX11_shared_43 ?_
        obtain rfl := Option.some.inj hF
        exact at_iret (pc := 44) C hr hlk (show inR (-1) from ⟨by decide, by decide⟩) ok dX11_shared_44
abbrev rm_X11_isLink : Room := { frames := 5, cells := 0, slots := 0, locals := 130 }
def F_X11_isLink (N : Nat) (v1 : Int) (v2 : Int) (σ : Sto) : Option (Int × Sto) :=
  asB (σ.1 0 1) (fun b1 => (F_X0_hasPeriod N b1 v1 σ).bind (fun q2 => if q2 = 0 then (some (0, σ)) else (asB (σ.1 0 1) (fun b4 => (F_X0_hasPeriod N b4 v2 σ).bind (fun q5 => if q5 = 0 then (some (0, σ)) else ((F_X11_refreshNet N σ).bind (fun q7 => inb (ja (jm v1 12) v2) 144 (if (q7.1 56 (ja (jm v1 12) v2)) < 0 then (some (0, q7)) else (some (1, q7))))))))))
set_option maxHeartbeats 4000000 in
set_option maxRecDepth 100000 in
theorem c_X11_isLink (l : Launch) (g : Geo) (N : Nat) (v1 : Int) (v2 : Int) (σ : Sto) (res : Int × Sto) (h1 : inR v1) (h2 : inR v2) (ok : OK σ) (hF : F_X11_isLink N v1 v2 σ = some res) : MtI l g yX11_isLink cX11_isLink 3 (some .boolean) rm_X11_isLink [vr g 0, vi v1, vi v2] σ res.1 res.2 isB := by
  intro sz
  refine Met.ofAt (own := RX11) (QQ := fun z => QI g z res.1 res.2 isB) (by decide +kernel) (Nat.le_of_ble_eq_true rfl) rfl ?_
  intro p e s m args below meth c C hr hlk
  show At p l e rm_X11_isLink s m args below meth c 0 0 g 3 (MQ below (QI g s.heap.size res.1 res.2 isB) args s 0 0 (AA g s.heap.size)) 0 [(0, vr g 0), (1, vi v1), (2, vi v2)] [] σ
  unfold F_X11_isLink at hF
  refine at_aload_n (pc := 0) C 0 dX11_isLink_0 rfl rfl ?_
  obtain ⟨b1, eb1, kb1, hF⟩ := asB_some hF
  refine at_getd (pc := 1) (jz := 1) (k2 := b1) C fw_11_19 kd0 rfl (Nat.le_of_ble_eq_true rfl) rfl rfl eb1 dX11_isLink_1 ?_
  refine at_iload_n (pc := 4) C 1 dX11_isLink_4 rfl rfl ?_
  obtain ⟨q2, eq2, hF⟩ := bind_some' hF
  refine at_callV (pc := 5) (ci := 0) C (c_X0_hasPeriod l g N b1 v1 σ q2 kb1 h1 ok eq2) kv_X0_hasPeriod w696 kb1 rfl rfl rfl rfl (Nat.le_of_ble_eq_true rfl) ⟨rfl, rfl, (Nat.le_of_ble_eq_true rfl), (Nat.le_of_ble_eq_true rfl)⟩ dX11_isLink_5 (fun tq2 okq2 => ?_)
  refine at_if_eq (pc := 8) (tgt := 22) C (isB.r tq2) dX11_isLink_8 rfl (fun c3 => ?_) (fun c3 => ?_)
  · have hF := (if_pos c3).symm.trans hF
    refine at_iconst (pc := 22) C dX11_isLink_22 ?_
    obtain rfl := Option.some.inj hF
    exact at_zret (pc := 23) C hr hlk (Or.inl rfl) ok dX11_isLink_23
  · have hF := (if_neg c3).symm.trans hF
    refine at_aload_n (pc := 11) C 0 dX11_isLink_11 rfl rfl ?_
    obtain ⟨b4, eb4, kb4, hF⟩ := asB_some hF
    refine at_getd (pc := 12) (jz := 1) (k2 := b4) C fw_11_19 kd0 rfl (Nat.le_of_ble_eq_true rfl) rfl rfl eb4 dX11_isLink_12 ?_
    refine at_iload_n (pc := 15) C 2 dX11_isLink_15 rfl rfl ?_
    obtain ⟨q5, eq5, hF⟩ := bind_some' hF
    refine at_callV (pc := 16) (ci := 0) C (c_X0_hasPeriod l g N b4 v2 σ q5 kb4 h2 ok eq5) kv_X0_hasPeriod w696 kb4 rfl rfl rfl rfl (Nat.le_of_ble_eq_true rfl) ⟨rfl, rfl, (Nat.le_of_ble_eq_true rfl), (Nat.le_of_ble_eq_true rfl)⟩ dX11_isLink_16 (fun tq5 okq5 => ?_)
    refine at_if_ne (pc := 19) (tgt := 24) C (isB.r tq5) dX11_isLink_19 rfl (fun c6 => ?_) (fun c6 => ?_)
    · have hF := (if_neg c6).symm.trans hF
      refine at_aload_n (pc := 24) C 0 dX11_isLink_24 rfl rfl ?_
      obtain ⟨q7, eq7, hF⟩ := bind_some' hF
      refine at_callVv (pc := 25) (ci := 11) C (c_X11_refreshNet l g N  σ q7  ok eq7) kv_X11_refreshNet w791 kd0 rfl rfl rfl rfl (Nat.le_of_ble_eq_true rfl) ⟨rfl, rfl, (Nat.le_of_ble_eq_true rfl), (Nat.le_of_ble_eq_true rfl)⟩ dX11_isLink_25 (fun okq7 => ?_)
      refine at_aload_n (pc := 28) C 0 dX11_isLink_28 rfl rfl ?_
      refine at_getr (pc := 29) (k' := 55) C 55 fw_11_64 kd0 rfl (Nat.le_of_ble_eq_true rfl) rfl rfl dX11_isLink_29 ?_
      refine at_getr (pc := 32) (k' := 56) C 1 fw_11_283 kd55 rfl (Nat.le_of_ble_eq_true rfl) rfl rfl dX11_isLink_32 ?_
      refine at_iload_n (pc := 35) C 1 dX11_isLink_35 rfl rfl ?_
      refine at_bipush (pc := 36) C dX11_isLink_36 (by decide) ?_
      refine at_imul (pc := 38) C dX11_isLink_38 ?_
      refine at_iload_n (pc := 39) C 2 dX11_isLink_39 rfl rfl ?_
      refine at_iadd (pc := 40) C dX11_isLink_40 ?_
      obtain ⟨b8, hF⟩ := inb_some hF
      refine at_iaload (pc := 41) C kd56 b8 dX11_isLink_41 ?_
      refine at_if_lt (pc := 42) (tgt := 49) C (okq7 56 (ja (jm v1 12) v2)) dX11_isLink_42 rfl (fun c9 => ?_) (fun c9 => ?_)
      · have hF := (if_pos c9).symm.trans hF
        refine at_iconst (pc := 49) C dX11_isLink_49 ?_
        obtain rfl := Option.some.inj hF
        exact at_zret (pc := 50) C hr hlk (Or.inl rfl) okq7 dX11_isLink_50
      · have hF := (if_neg c9).symm.trans hF
        refine at_iconst (pc := 45) C dX11_isLink_45 ?_
        refine at_goto (pc := 46) (tgt := 50) C dX11_isLink_46 rfl ?_
        obtain rfl := Option.some.inj hF
        exact at_zret (pc := 50) C hr hlk (Or.inr rfl) okq7 dX11_isLink_50
    · have hF := (if_pos c6).symm.trans hF
      refine at_iconst (pc := 22) C dX11_isLink_22 ?_
      obtain rfl := Option.some.inj hF
      exact at_zret (pc := 23) C hr hlk (Or.inl rfl) ok dX11_isLink_23
abbrev rm_X11_bound : Room := { frames := 6, cells := 0, slots := 0, locals := 152 }
def F_X11_bound (N : Nat) (v1 : Int) (v2 : Int) (σ : Sto) : Option (Int × Sto) :=
  (F_X11_isLink N v1 v2 σ).bind (fun q1 => if q1.1 = 0 then (some ((-1), q1.2)) else (inb (ja (jm v1 12) v2) 144 (some ((q1.2.1 56 (ja (jm v1 12) v2)), q1.2))))
set_option maxHeartbeats 4000000 in
set_option maxRecDepth 100000 in
theorem c_X11_bound (l : Launch) (g : Geo) (N : Nat) (v1 : Int) (v2 : Int) (σ : Sto) (res : Int × Sto) (h1 : inR v1) (h2 : inR v2) (ok : OK σ) (hF : F_X11_bound N v1 v2 σ = some res) : MtI l g yX11_bound cX11_bound 3 (some .int) rm_X11_bound [vr g 0, vi v1, vi v2] σ res.1 res.2 inR := by
  intro sz
  refine Met.ofAt (own := RX11) (QQ := fun z => QI g z res.1 res.2 inR) (by decide +kernel) (Nat.le_of_ble_eq_true rfl) rfl ?_
  intro p e s m args below meth c C hr hlk
  show At p l e rm_X11_bound s m args below meth c 0 0 g 3 (MQ below (QI g s.heap.size res.1 res.2 inR) args s 0 0 (AA g s.heap.size)) 0 [(0, vr g 0), (1, vi v1), (2, vi v2)] [] σ
  unfold F_X11_bound at hF
  refine at_aload_n (pc := 0) C 0 dX11_bound_0 rfl rfl ?_
  refine at_iload_n (pc := 1) C 1 dX11_bound_1 rfl rfl ?_
  refine at_iload_n (pc := 2) C 2 dX11_bound_2 rfl rfl ?_
  obtain ⟨q1, eq1, hF⟩ := bind_some' hF
  refine at_callV (pc := 3) (ci := 11) C (c_X11_isLink l g N v1 v2 σ q1 h1 h2 ok eq1) kv_X11_isLink w895 kd0 rfl rfl rfl rfl (Nat.le_of_ble_eq_true rfl) ⟨rfl, rfl, (Nat.le_of_ble_eq_true rfl), (Nat.le_of_ble_eq_true rfl)⟩ dX11_bound_3 (fun tq1 okq1 => ?_)
  refine at_if_eq (pc := 6) (tgt := 26) C (isB.r tq1) dX11_bound_6 rfl (fun c2 => ?_) (fun c2 => ?_)
  · have hF := (if_pos c2).symm.trans hF
    refine at_iconst (pc := 26) C dX11_bound_26 ?_
    obtain rfl := Option.some.inj hF
    exact at_iret (pc := 27) C hr hlk (show inR (-1) from ⟨by decide, by decide⟩) okq1 dX11_bound_27
  · have hF := (if_neg c2).symm.trans hF
    refine at_aload_n (pc := 9) C 0 dX11_bound_9 rfl rfl ?_
    refine at_getr (pc := 10) (k' := 55) C 55 fw_11_64 kd0 rfl (Nat.le_of_ble_eq_true rfl) rfl rfl dX11_bound_10 ?_
    refine at_getr (pc := 13) (k' := 56) C 1 fw_11_283 kd55 rfl (Nat.le_of_ble_eq_true rfl) rfl rfl dX11_bound_13 ?_
    refine at_iload_n (pc := 16) C 1 dX11_bound_16 rfl rfl ?_
    refine at_bipush (pc := 17) C dX11_bound_17 (by decide) ?_
    refine at_imul (pc := 19) C dX11_bound_19 ?_
    refine at_iload_n (pc := 20) C 2 dX11_bound_20 rfl rfl ?_
    refine at_iadd (pc := 21) C dX11_bound_21 ?_
    obtain ⟨b3, hF⟩ := inb_some hF
    refine at_iaload (pc := 22) C kd56 b3 dX11_bound_22 ?_
    refine at_goto (pc := 23) (tgt := 27) C dX11_bound_23 rfl ?_
    obtain rfl := Option.some.inj hF
    exact at_iret (pc := 27) C hr hlk (okq1 56 (ja (jm v1 12) v2)) okq1 dX11_bound_27
abbrev rm_X11_room : Room := { frames := 6, cells := 0, slots := 0, locals := 152 }
def F_X11_room (N : Nat) (v1 : Int) (v2 : Int) (σ : Sto) : Option (Int × Sto) :=
  (F_X11_isLink N v1 v2 σ).bind (fun q1 => if q1.1 = 0 then (some ((-1), q1.2)) else (inb (ja (jm v1 12) v2) 144 ((F_X5_takenOn N 29 v1 v2 q1.2).bind (fun q4 => some ((js (q1.2.1 56 (ja (jm v1 12) v2)) q4), q1.2)))))
set_option maxHeartbeats 4000000 in
set_option maxRecDepth 100000 in
theorem c_X11_room (l : Launch) (g : Geo) (N : Nat) (v1 : Int) (v2 : Int) (σ : Sto) (res : Int × Sto) (h1 : inR v1) (h2 : inR v2) (ok : OK σ) (hF : F_X11_room N v1 v2 σ = some res) : MtI l g yX11_room cX11_room 3 (some .int) rm_X11_room [vr g 0, vi v1, vi v2] σ res.1 res.2 inR := by
  intro sz
  refine Met.ofAt (own := RX11) (QQ := fun z => QI g z res.1 res.2 inR) (by decide +kernel) (Nat.le_of_ble_eq_true rfl) rfl ?_
  intro p e s m args below meth c C hr hlk
  show At p l e rm_X11_room s m args below meth c 0 0 g 3 (MQ below (QI g s.heap.size res.1 res.2 inR) args s 0 0 (AA g s.heap.size)) 0 [(0, vr g 0), (1, vi v1), (2, vi v2)] [] σ
  unfold F_X11_room at hF
  refine at_aload_n (pc := 0) C 0 dX11_room_0 rfl rfl ?_
  refine at_iload_n (pc := 1) C 1 dX11_room_1 rfl rfl ?_
  refine at_iload_n (pc := 2) C 2 dX11_room_2 rfl rfl ?_
  obtain ⟨q1, eq1, hF⟩ := bind_some' hF
  refine at_callV (pc := 3) (ci := 11) C (c_X11_isLink l g N v1 v2 σ q1 h1 h2 ok eq1) kv_X11_isLink w895 kd0 rfl rfl rfl rfl (Nat.le_of_ble_eq_true rfl) ⟨rfl, rfl, (Nat.le_of_ble_eq_true rfl), (Nat.le_of_ble_eq_true rfl)⟩ dX11_room_3 (fun tq1 okq1 => ?_)
  refine at_if_eq (pc := 6) (tgt := 36) C (isB.r tq1) dX11_room_6 rfl (fun c2 => ?_) (fun c2 => ?_)
  · have hF := (if_pos c2).symm.trans hF
    refine at_iconst (pc := 36) C dX11_room_36 ?_
    obtain rfl := Option.some.inj hF
    exact at_iret (pc := 37) C hr hlk (show inR (-1) from ⟨by decide, by decide⟩) okq1 dX11_room_37
  · have hF := (if_neg c2).symm.trans hF
    refine at_aload_n (pc := 9) C 0 dX11_room_9 rfl rfl ?_
    refine at_getr (pc := 10) (k' := 55) C 55 fw_11_64 kd0 rfl (Nat.le_of_ble_eq_true rfl) rfl rfl dX11_room_10 ?_
    refine at_getr (pc := 13) (k' := 56) C 1 fw_11_283 kd55 rfl (Nat.le_of_ble_eq_true rfl) rfl rfl dX11_room_13 ?_
    refine at_iload_n (pc := 16) C 1 dX11_room_16 rfl rfl ?_
    refine at_bipush (pc := 17) C dX11_room_17 (by decide) ?_
    refine at_imul (pc := 19) C dX11_room_19 ?_
    refine at_iload_n (pc := 20) C 2 dX11_room_20 rfl rfl ?_
    refine at_iadd (pc := 21) C dX11_room_21 ?_
    obtain ⟨b3, hF⟩ := inb_some hF
    refine at_iaload (pc := 22) C kd56 b3 dX11_room_22 ?_
    refine at_aload_n (pc := 23) C 0 dX11_room_23 rfl rfl ?_
    refine at_getr (pc := 24) (k' := 29) C 29 fw_11_29 kd0 rfl (Nat.le_of_ble_eq_true rfl) rfl rfl dX11_room_24 ?_
    refine at_iload_n (pc := 27) C 1 dX11_room_27 rfl rfl ?_
    refine at_iload_n (pc := 28) C 2 dX11_room_28 rfl rfl ?_
    obtain ⟨q4, eq4, hF⟩ := bind_some' hF
    refine at_callV (pc := 29) (ci := 5) C (c_X5_takenOn l g N 29 v1 v2 q1.2 q4 kd29 h1 h2 okq1 eq4) kv_X5_takenOn w869 kd29 rfl rfl rfl rfl (Nat.le_of_ble_eq_true rfl) ⟨rfl, rfl, (Nat.le_of_ble_eq_true rfl), (Nat.le_of_ble_eq_true rfl)⟩ dX11_room_29 (fun tq4 okq4 => ?_)
    refine at_isub (pc := 32) C dX11_room_32 ?_
    refine at_goto (pc := 33) (tgt := 37) C dX11_room_33 rfl ?_
    obtain rfl := Option.some.inj hF
    exact at_iret (pc := 37) C hr hlk (js_R (q1.2.1 56 (ja (jm v1 12) v2)) q4) okq1 dX11_room_37
abbrev rm_X11_price : Room := { frames := 6, cells := 0, slots := 0, locals := 152 }
def F_X11_price (N : Nat) (v1 : Int) (v2 : Int) (σ : Sto) : Option (Int × Sto) :=
  (F_X11_isLink N v1 v2 σ).bind (fun q1 => if q1.1 = 0 then (some ((-1), q1.2)) else (inb (ja (jm v1 12) v2) 144 (some ((q1.2.1 57 (ja (jm v1 12) v2)), q1.2))))
set_option maxHeartbeats 4000000 in
set_option maxRecDepth 100000 in
theorem c_X11_price (l : Launch) (g : Geo) (N : Nat) (v1 : Int) (v2 : Int) (σ : Sto) (res : Int × Sto) (h1 : inR v1) (h2 : inR v2) (ok : OK σ) (hF : F_X11_price N v1 v2 σ = some res) : MtI l g yX11_price cX11_price 3 (some .int) rm_X11_price [vr g 0, vi v1, vi v2] σ res.1 res.2 inR := by
  intro sz
  refine Met.ofAt (own := RX11) (QQ := fun z => QI g z res.1 res.2 inR) (by decide +kernel) (Nat.le_of_ble_eq_true rfl) rfl ?_
  intro p e s m args below meth c C hr hlk
  show At p l e rm_X11_price s m args below meth c 0 0 g 3 (MQ below (QI g s.heap.size res.1 res.2 inR) args s 0 0 (AA g s.heap.size)) 0 [(0, vr g 0), (1, vi v1), (2, vi v2)] [] σ
  unfold F_X11_price at hF
  refine at_aload_n (pc := 0) C 0 dX11_price_0 rfl rfl ?_
  refine at_iload_n (pc := 1) C 1 dX11_price_1 rfl rfl ?_
  refine at_iload_n (pc := 2) C 2 dX11_price_2 rfl rfl ?_
  obtain ⟨q1, eq1, hF⟩ := bind_some' hF
  refine at_callV (pc := 3) (ci := 11) C (c_X11_isLink l g N v1 v2 σ q1 h1 h2 ok eq1) kv_X11_isLink w895 kd0 rfl rfl rfl rfl (Nat.le_of_ble_eq_true rfl) ⟨rfl, rfl, (Nat.le_of_ble_eq_true rfl), (Nat.le_of_ble_eq_true rfl)⟩ dX11_price_3 (fun tq1 okq1 => ?_)
  refine at_if_eq (pc := 6) (tgt := 26) C (isB.r tq1) dX11_price_6 rfl (fun c2 => ?_) (fun c2 => ?_)
  · have hF := (if_pos c2).symm.trans hF
    refine at_iconst (pc := 26) C dX11_price_26 ?_
    obtain rfl := Option.some.inj hF
    exact at_iret (pc := 27) C hr hlk (show inR (-1) from ⟨by decide, by decide⟩) okq1 dX11_price_27
  · have hF := (if_neg c2).symm.trans hF
    refine at_aload_n (pc := 9) C 0 dX11_price_9 rfl rfl ?_
    refine at_getr (pc := 10) (k' := 55) C 55 fw_11_64 kd0 rfl (Nat.le_of_ble_eq_true rfl) rfl rfl dX11_price_10 ?_
    refine at_getr (pc := 13) (k' := 57) C 2 fw_11_297 kd55 rfl (Nat.le_of_ble_eq_true rfl) rfl rfl dX11_price_13 ?_
    refine at_iload_n (pc := 16) C 1 dX11_price_16 rfl rfl ?_
    refine at_bipush (pc := 17) C dX11_price_17 (by decide) ?_
    refine at_imul (pc := 19) C dX11_price_19 ?_
    refine at_iload_n (pc := 20) C 2 dX11_price_20 rfl rfl ?_
    refine at_iadd (pc := 21) C dX11_price_21 ?_
    obtain ⟨b3, hF⟩ := inb_some hF
    refine at_iaload (pc := 22) C kd57 b3 dX11_price_22 ?_
    refine at_goto (pc := 23) (tgt := 27) C dX11_price_23 rfl ?_
    obtain rfl := Option.some.inj hF
    exact at_iret (pc := 27) C hr hlk (okq1 57 (ja (jm v1 12) v2)) okq1 dX11_price_27
abbrev rm_X11_enter : Room := { frames := 6, cells := 0, slots := 0, locals := 152 }
def F_X11_enter (N : Nat) (v1 : Nat) (v2 : Int) (v3 : Int) (v4 : Int) (σ : Sto) : Option (Int × Sto) :=
  if v4 < 1 then (some ((-1), σ)) else (if 99999 < v4 then (some ((-1), σ)) else ((F_X11_isLink N v2 v3 σ).bind (fun q3 => if q3.1 = 0 then (some ((-1), q3.2)) else (if (q3.2.1 v1 3) < 30 then (inb (ja (jm v2 12) v3) 144 ((F_X5_takenOn N v1 v2 v3 q3.2).bind (fun q7 => if (js (q3.2.1 56 (ja (jm v2 12) v3)) q7) < v4 then (some ((-3), q3.2)) else ((F_X11_openOf N v1 v2 q3.2).bind (fun q9 => if q9 < v4 then (some ((-3), q3.2)) else ((F_X11_openOf N v1 v3 q3.2).bind (fun q11 => if v4 ≤ q11 then ((F_X5_insert N v1 (q3.2.1 v1 3) v2 v3 v4 q3.2).bind (fun q13 => some ((js (q13.1 v1 3) 1), q13))) else (some ((-3), q3.2))))))))) else (some ((-2), q3.2))))))
set_option maxHeartbeats 4000000 in
set_option maxRecDepth 100000 in
theorem c_X11_enter (l : Launch) (g : Geo) (N : Nat) (v1 : Nat) (v2 : Int) (v3 : Int) (v4 : Int) (σ : Sto) (res : Int × Sto) (hk1 : knd v1 = (15, 4)) (h2 : inR v2) (h3 : inR v3) (h4 : inR v4) (ok : OK σ) (hF : F_X11_enter N v1 v2 v3 v4 σ = some res) : MtI l g yX11_enter cX11_enter 6 (some .int) rm_X11_enter [vr g 0, vr g v1, vi v2, vi v3, vi v4] σ res.1 res.2 inR := by
  intro sz
  refine Met.ofAt (own := RX11) (QQ := fun z => QI g z res.1 res.2 inR) (by decide +kernel) (Nat.le_of_ble_eq_true rfl) rfl ?_
  intro p e s m args below meth c C hr hlk
  show At p l e rm_X11_enter s m args below meth c 0 0 g 6 (MQ below (QI g s.heap.size res.1 res.2 inR) args s 0 0 (AA g s.heap.size)) 0 [(0, vr g 0), (1, vr g v1), (2, vi v2), (3, vi v3), (4, vi v4)] [] σ
  unfold F_X11_enter at hF
  refine at_iload (pc := 0) C 4 dX11_enter_0 rfl ?_
  refine at_iconst (pc := 2) C dX11_enter_2 ?_
  refine at_icmp_lt (pc := 3) (tgt := 23) C h4 (isB.r (Or.inr rfl)) dX11_enter_3 rfl (fun c1 => ?_) (fun c1 => ?_)
  · have hF := (if_pos c1).symm.trans hF
    refine at_iconst (pc := 23) C dX11_enter_23 ?_
    obtain rfl := Option.some.inj hF
    exact at_iret (pc := 24) C hr hlk (show inR (-1) from ⟨by decide, by decide⟩) ok dX11_enter_24
  · have hF := (if_neg c1).symm.trans hF
    refine at_iload (pc := 6) C 4 dX11_enter_6 rfl ?_
    refine at_ldc_w (pc := 8) (n := 99999) C dX11_enter_8 w915 ?_
    refine at_icmp_gt (pc := 11) (tgt := 23) C h4 (show inR 99999 from ⟨by decide, by decide⟩) dX11_enter_11 rfl (fun c2 => ?_) (fun c2 => ?_)
    · have hF := (if_pos c2).symm.trans hF
      refine at_iconst (pc := 23) C dX11_enter_23 ?_
      obtain rfl := Option.some.inj hF
      exact at_iret (pc := 24) C hr hlk (show inR (-1) from ⟨by decide, by decide⟩) ok dX11_enter_24
    · have hF := (if_neg c2).symm.trans hF
      refine at_aload_n (pc := 14) C 0 dX11_enter_14 rfl rfl ?_
      refine at_iload_n (pc := 15) C 2 dX11_enter_15 rfl rfl ?_
      refine at_iload_n (pc := 16) C 3 dX11_enter_16 rfl rfl ?_
      obtain ⟨q3, eq3, hF⟩ := bind_some' hF
      refine at_callV (pc := 17) (ci := 11) C (c_X11_isLink l g N v2 v3 σ q3 h2 h3 ok eq3) kv_X11_isLink w895 kd0 rfl rfl rfl rfl (Nat.le_of_ble_eq_true rfl) ⟨rfl, rfl, (Nat.le_of_ble_eq_true rfl), (Nat.le_of_ble_eq_true rfl)⟩ dX11_enter_17 (fun tq3 okq3 => ?_)
      refine at_if_ne (pc := 20) (tgt := 25) C (isB.r tq3) dX11_enter_20 rfl (fun c4 => ?_) (fun c4 => ?_)
      · have hF := (if_neg c4).symm.trans hF
        refine at_aload_n (pc := 25) C 1 dX11_enter_25 rfl rfl ?_
        refine at_geti (pc := 26) (jz := 3) C fw_11_273 hk1 rfl (Nat.le_of_ble_eq_true rfl) rfl rfl dX11_enter_26 ?_
        refine at_bipush (pc := 29) C dX11_enter_29 (by decide) ?_
        refine at_icmp_lt (pc := 31) (tgt := 37) C (okq3 v1 3) (show inR 30 from ⟨by decide, by decide⟩) dX11_enter_31 rfl (fun c5 => ?_) (fun c5 => ?_)
        · have hF := (if_pos c5).symm.trans hF
          refine at_aload_n (pc := 37) C 0 dX11_enter_37 rfl rfl ?_
          refine at_getr (pc := 38) (k' := 55) C 55 fw_11_64 kd0 rfl (Nat.le_of_ble_eq_true rfl) rfl rfl dX11_enter_38 ?_
          refine at_getr (pc := 41) (k' := 56) C 1 fw_11_283 kd55 rfl (Nat.le_of_ble_eq_true rfl) rfl rfl dX11_enter_41 ?_
          refine at_iload_n (pc := 44) C 2 dX11_enter_44 rfl rfl ?_
          refine at_bipush (pc := 45) C dX11_enter_45 (by decide) ?_
          refine at_imul (pc := 47) C dX11_enter_47 ?_
          refine at_iload_n (pc := 48) C 3 dX11_enter_48 rfl rfl ?_
          refine at_iadd (pc := 49) C dX11_enter_49 ?_
          obtain ⟨b6, hF⟩ := inb_some hF
          refine at_iaload (pc := 50) C kd56 b6 dX11_enter_50 ?_
          refine at_aload_n (pc := 51) C 1 dX11_enter_51 rfl rfl ?_
          refine at_iload_n (pc := 52) C 2 dX11_enter_52 rfl rfl ?_
          refine at_iload_n (pc := 53) C 3 dX11_enter_53 rfl rfl ?_
          obtain ⟨q7, eq7, hF⟩ := bind_some' hF
          refine at_callV (pc := 54) (ci := 5) C (c_X5_takenOn l g N v1 v2 v3 q3.2 q7 hk1 h2 h3 okq3 eq7) kv_X5_takenOn w869 hk1 rfl rfl rfl rfl (Nat.le_of_ble_eq_true rfl) ⟨rfl, rfl, (Nat.le_of_ble_eq_true rfl), (Nat.le_of_ble_eq_true rfl)⟩ dX11_enter_54 (fun tq7 okq7 => ?_)
          refine at_isub (pc := 57) C dX11_enter_57 ?_
          refine at_istore (pc := 58) (lv' := [(5, vi (js (q3.2.1 56 (ja (jm v2 12) v3)) q7)), (0, vr g 0), (1, vr g v1), (2, vi v2), (3, vi v3), (4, vi v4)]) C dX11_enter_58 (Nat.le_of_ble_eq_true rfl) rfl ?_
          refine at_iload (pc := 60) C 5 dX11_enter_60 rfl ?_
          refine at_iload (pc := 62) C 0 dX11_enter_62 rfl ?_
          refine at_icmp_gt (pc := 64) (tgt := 89) C h4 (js_R (q3.2.1 56 (ja (jm v2 12) v3)) q7) dX11_enter_64 rfl (fun c8 => ?_) (fun c8 => ?_)
          · have hF := (if_pos c8).symm.trans hF
            refine at_bipush (pc := 89) C dX11_enter_89 (by decide) ?_
            obtain rfl := Option.some.inj hF
            exact at_iret (pc := 91) C hr hlk (show inR (-3) from ⟨by decide, by decide⟩) okq3 dX11_enter_91
          · have hF := (if_neg c8).symm.trans hF
            refine at_iload (pc := 67) C 5 dX11_enter_67 rfl ?_
            refine at_aload_n (pc := 69) C 1 dX11_enter_69 rfl rfl ?_
            refine at_aload_n (pc := 70) C 2 dX11_enter_70 rfl rfl ?_
            refine at_iload_n (pc := 71) C 3 dX11_enter_71 rfl rfl ?_
            obtain ⟨q9, eq9, hF⟩ := bind_some' hF
            refine at_callV (pc := 72) (ci := 11) C (c_X11_openOf l g N v1 v2 q3.2 q9 hk1 h2 okq3 eq9) kv_X11_openOf w701 kd0 rfl rfl rfl rfl (Nat.le_of_ble_eq_true rfl) ⟨rfl, rfl, (Nat.le_of_ble_eq_true rfl), (Nat.le_of_ble_eq_true rfl)⟩ dX11_enter_72 (fun tq9 okq9 => ?_)
            refine at_icmp_gt (pc := 75) (tgt := 89) C h4 tq9 dX11_enter_75 rfl (fun c10 => ?_) (fun c10 => ?_)
            · have hF := (if_pos c10).symm.trans hF
              refine at_bipush (pc := 89) C dX11_enter_89 (by decide) ?_
              obtain rfl := Option.some.inj hF
              exact at_iret (pc := 91) C hr hlk (show inR (-3) from ⟨by decide, by decide⟩) okq3 dX11_enter_91
            · have hF := (if_neg c10).symm.trans hF
              refine at_iload (pc := 78) C 5 dX11_enter_78 rfl ?_
              refine at_aload_n (pc := 80) C 1 dX11_enter_80 rfl rfl ?_
              refine at_aload_n (pc := 81) C 2 dX11_enter_81 rfl rfl ?_
              refine at_iload_n (pc := 82) C 4 dX11_enter_82 rfl rfl ?_
              obtain ⟨q11, eq11, hF⟩ := bind_some' hF
              refine at_callV (pc := 83) (ci := 11) C (c_X11_openOf l g N v1 v3 q3.2 q11 hk1 h3 okq3 eq11) kv_X11_openOf w701 kd0 rfl rfl rfl rfl (Nat.le_of_ble_eq_true rfl) ⟨rfl, rfl, (Nat.le_of_ble_eq_true rfl), (Nat.le_of_ble_eq_true rfl)⟩ dX11_enter_83 (fun tq11 okq11 => ?_)
              refine at_icmp_le (pc := 86) (tgt := 92) C h4 tq11 dX11_enter_86 rfl (fun c12 => ?_) (fun c12 => ?_)
              · have hF := (if_pos c12).symm.trans hF
                refine at_aload_n (pc := 92) C 2 dX11_enter_92 rfl rfl ?_
                refine at_aload_n (pc := 93) C 2 dX11_enter_93 rfl rfl ?_
                refine at_geti (pc := 94) (jz := 3) C fw_11_273 hk1 rfl (Nat.le_of_ble_eq_true rfl) rfl rfl dX11_enter_94 ?_
                refine at_iload_n (pc := 97) C 3 dX11_enter_97 rfl rfl ?_
                refine at_iload_n (pc := 98) C 4 dX11_enter_98 rfl rfl ?_
                refine at_iload (pc := 99) C 5 dX11_enter_99 rfl ?_
                obtain ⟨q13, eq13, hF⟩ := bind_some' hF
                refine at_callVv (pc := 101) (ci := 5) C (c_X5_insert l g N v1 (q3.2.1 v1 3) v2 v3 v4 q3.2 q13 hk1 (okq3 v1 3) h2 h3 h4 okq3 eq13) kv_X5_insert w916 hk1 rfl rfl rfl rfl (Nat.le_of_ble_eq_true rfl) ⟨rfl, rfl, (Nat.le_of_ble_eq_true rfl), (Nat.le_of_ble_eq_true rfl)⟩ dX11_enter_101 (fun okq13 => ?_)
                refine at_aload_n (pc := 104) C 2 dX11_enter_104 rfl rfl ?_
                refine at_geti (pc := 105) (jz := 3) C fw_11_273 hk1 rfl (Nat.le_of_ble_eq_true rfl) rfl rfl dX11_enter_105 ?_
                refine at_iconst (pc := 108) C dX11_enter_108 ?_
                refine at_isub (pc := 109) C dX11_enter_109 ?_
                obtain rfl := Option.some.inj hF
                exact at_iret (pc := 110) C hr hlk (js_R (q13.1 v1 3) 1) okq13 dX11_enter_110
              · have hF := (if_neg c12).symm.trans hF
                refine at_bipush (pc := 89) C dX11_enter_89 (by decide) ?_
                obtain rfl := Option.some.inj hF
                exact at_iret (pc := 91) C hr hlk (show inR (-3) from ⟨by decide, by decide⟩) okq3 dX11_enter_91
        · have hF := (if_neg c5).symm.trans hF
          refine at_bipush (pc := 34) C dX11_enter_34 (by decide) ?_
          obtain rfl := Option.some.inj hF
          exact at_iret (pc := 36) C hr hlk (show inR (-2) from ⟨by decide, by decide⟩) okq3 dX11_enter_36
      · have hF := (if_pos c4).symm.trans hF
        refine at_iconst (pc := 23) C dX11_enter_23 ?_
        obtain rfl := Option.some.inj hF
        exact at_iret (pc := 24) C hr hlk (show inR (-1) from ⟨by decide, by decide⟩) okq3 dX11_enter_24
abbrev rm_X11_claim : Room := { frames := 7, cells := 0, slots := 0, locals := 177 }
def F_X11_claim (N : Nat) (v1 : Int) (v2 : Int) (v3 : Int) (σ : Sto) : Option (Int × Sto) :=
  (F_X11_enter N 29 v1 v2 v3 σ).bind (fun q1 => if q1.1 < 0 then (some (q1.1, q1.2)) else ((F_X2_push N 0 1 0 0 0 q1.2).bind (fun q3 => some (q1.1, (upI q3 0 17 0)))))
set_option maxHeartbeats 4000000 in
set_option maxRecDepth 100000 in
theorem c_X11_claim (l : Launch) (g : Geo) (N : Nat) (v1 : Int) (v2 : Int) (v3 : Int) (σ : Sto) (res : Int × Sto) (h1 : inR v1) (h2 : inR v2) (h3 : inR v3) (ok : OK σ) (hF : F_X11_claim N v1 v2 v3 σ = some res) : MtI l g yX11_claim cX11_claim 5 (some .int) rm_X11_claim [vr g 0, vi v1, vi v2, vi v3] σ res.1 res.2 inR := by
  intro sz
  refine Met.ofAt (own := RX11) (QQ := fun z => QI g z res.1 res.2 inR) (by decide +kernel) (Nat.le_of_ble_eq_true rfl) rfl ?_
  intro p e s m args below meth c C hr hlk
  show At p l e rm_X11_claim s m args below meth c 0 0 g 5 (MQ below (QI g s.heap.size res.1 res.2 inR) args s 0 0 (AA g s.heap.size)) 0 [(0, vr g 0), (1, vi v1), (2, vi v2), (3, vi v3)] [] σ
  unfold F_X11_claim at hF
  refine at_aload_n (pc := 0) C 0 dX11_claim_0 rfl rfl ?_
  refine at_aload_n (pc := 1) C 0 dX11_claim_1 rfl rfl ?_
  refine at_getr (pc := 2) (k' := 29) C 29 fw_11_29 kd0 rfl (Nat.le_of_ble_eq_true rfl) rfl rfl dX11_claim_2 ?_
  refine at_iload_n (pc := 5) C 1 dX11_claim_5 rfl rfl ?_
  refine at_iload_n (pc := 6) C 2 dX11_claim_6 rfl rfl ?_
  refine at_iload_n (pc := 7) C 3 dX11_claim_7 rfl rfl ?_
  obtain ⟨q1, eq1, hF⟩ := bind_some' hF
  refine at_callV (pc := 8) (ci := 11) C (c_X11_enter l g N 29 v1 v2 v3 σ q1 kd29 h1 h2 h3 ok eq1) kv_X11_enter w911 kd0 rfl rfl rfl rfl (Nat.le_of_ble_eq_true rfl) ⟨rfl, rfl, (Nat.le_of_ble_eq_true rfl), (Nat.le_of_ble_eq_true rfl)⟩ dX11_claim_8 (fun tq1 okq1 => ?_)
  refine at_istore (pc := 11) (lv' := [(4, vi q1.1), (0, vr g 0), (1, vi v1), (2, vi v2), (3, vi v3)]) C dX11_claim_11 (Nat.le_of_ble_eq_true rfl) rfl ?_
  refine at_iload (pc := 13) C 0 dX11_claim_13 rfl ?_
  refine at_if_lt (pc := 15) (tgt := 35) C tq1 dX11_claim_15 rfl (fun c2 => ?_) (fun c2 => ?_)
  · have hF := (if_pos c2).symm.trans hF
    refine at_iload (pc := 35) C 0 dX11_claim_35 rfl ?_
    obtain rfl := Option.some.inj hF
    exact at_iret (pc := 37) C hr hlk tq1 okq1 dX11_claim_37
  · have hF := (if_neg c2).symm.trans hF
    refine at_aload_n (pc := 18) C 1 dX11_claim_18 rfl rfl ?_
    refine at_getr (pc := 19) (k' := 33) C 33 fw_11_36 kd0 rfl (Nat.le_of_ble_eq_true rfl) rfl rfl dX11_claim_19 ?_
    refine at_iconst (pc := 22) C dX11_claim_22 ?_
    refine at_iconst (pc := 23) C dX11_claim_23 ?_
    refine at_iconst (pc := 24) C dX11_claim_24 ?_
    refine at_iconst (pc := 25) C dX11_claim_25 ?_
    refine at_iconst (pc := 26) C dX11_claim_26 ?_
    obtain ⟨q3, eq3, hF⟩ := bind_some' hF
    refine at_callVv (pc := 27) (ci := 2) C (c_X2_push l g N 0 1 0 0 0 q1.2 q3 (isB.r (Or.inl rfl)) (isB.r (Or.inr rfl)) (isB.r (Or.inl rfl)) (isB.r (Or.inl rfl)) (isB.r (Or.inl rfl)) okq1 eq3) kv_X2_push w878 kd33 rfl rfl rfl rfl (Nat.le_of_ble_eq_true rfl) ⟨rfl, rfl, (Nat.le_of_ble_eq_true rfl), (Nat.le_of_ble_eq_true rfl)⟩ dX11_claim_27 (fun okq3 => ?_)
    refine at_aload_n (pc := 30) C 1 dX11_claim_30 rfl rfl ?_
    refine at_iconst (pc := 31) C dX11_claim_31 ?_
    refine at_putz (pc := 32) (jz := 17) C fu_11_102 kd0 rfl (Nat.le_of_ble_eq_true rfl) rfl (Or.inl rfl) rfl dX11_claim_32 ?_
    refine at_iload (pc := 35) C 0 dX11_claim_35 rfl ?_
    obtain rfl := Option.some.inj hF
    exact at_iret (pc := 37) C hr hlk tq1 (OK_up (k := 0) (j := 17) okq3 (isB.r (Or.inl rfl))) dX11_claim_37
abbrev rm_X11_withdraw : Room := { frames := 2, cells := 0, slots := 0, locals := 74 }
def F_X11_withdraw (N : Nat) (v1 : Int) (σ : Sto) : Option (Int × Sto) :=
  (F_X5_has N 29 v1 σ).bind (fun q1 => if q1 = 0 then (some ((-1), σ)) else (inb v1 30 ((F_X2_push N 1 v1 (σ.1 30 v1) (σ.1 31 v1) (σ.1 32 v1) σ).bind (fun q4 => (F_X5_remove N 29 v1 q4).bind (fun q5 => some ((σ.1 32 v1), (upI q5 0 17 0)))))))
set_option maxHeartbeats 4000000 in
set_option maxRecDepth 100000 in
theorem c_X11_withdraw (l : Launch) (g : Geo) (N : Nat) (v1 : Int) (σ : Sto) (res : Int × Sto) (h1 : inR v1) (ok : OK σ) (hF : F_X11_withdraw N v1 σ = some res) : MtI l g yX11_withdraw cX11_withdraw 3 (some .int) rm_X11_withdraw [vr g 0, vi v1] σ res.1 res.2 inR := by
  intro sz
  refine Met.ofAt (own := RX11) (QQ := fun z => QI g z res.1 res.2 inR) (by decide +kernel) (Nat.le_of_ble_eq_true rfl) rfl ?_
  intro p e s m args below meth c C hr hlk
  show At p l e rm_X11_withdraw s m args below meth c 0 0 g 3 (MQ below (QI g s.heap.size res.1 res.2 inR) args s 0 0 (AA g s.heap.size)) 0 [(0, vr g 0), (1, vi v1)] [] σ
  unfold F_X11_withdraw at hF
  refine at_aload_n (pc := 0) C 0 dX11_withdraw_0 rfl rfl ?_
  refine at_getr (pc := 1) (k' := 29) C 29 fw_11_29 kd0 rfl (Nat.le_of_ble_eq_true rfl) rfl rfl dX11_withdraw_1 ?_
  refine at_iload_n (pc := 4) C 1 dX11_withdraw_4 rfl rfl ?_
  obtain ⟨q1, eq1, hF⟩ := bind_some' hF
  refine at_callV (pc := 5) (ci := 5) C (c_X5_has l g N 29 v1 σ q1 kd29 h1 ok eq1) kv_X5_has w924 kd29 rfl rfl rfl rfl (Nat.le_of_ble_eq_true rfl) ⟨rfl, rfl, (Nat.le_of_ble_eq_true rfl), (Nat.le_of_ble_eq_true rfl)⟩ dX11_withdraw_5 (fun tq1 okq1 => ?_)
  refine at_if_ne (pc := 8) (tgt := 13) C (isB.r tq1) dX11_withdraw_8 rfl (fun c2 => ?_) (fun c2 => ?_)
  · have hF := (if_neg c2).symm.trans hF
    refine at_aload_n (pc := 13) C 0 dX11_withdraw_13 rfl rfl ?_
    refine at_getr (pc := 14) (k' := 29) C 29 fw_11_29 kd0 rfl (Nat.le_of_ble_eq_true rfl) rfl rfl dX11_withdraw_14 ?_
    refine at_getr (pc := 17) (k' := 32) C 3 fw_11_311 kd29 rfl (Nat.le_of_ble_eq_true rfl) rfl rfl dX11_withdraw_17 ?_
    refine at_iload_n (pc := 20) C 1 dX11_withdraw_20 rfl rfl ?_
    obtain ⟨b3, hF⟩ := inb_some hF
    refine at_iaload (pc := 21) C kd32 b3 dX11_withdraw_21 ?_
    refine at_istore_n (pc := 22) (lv' := [(2, vi (σ.1 32 v1)), (0, vr g 0), (1, vi v1)]) C dX11_withdraw_22 rfl (Nat.le_of_ble_eq_true rfl) rfl ?_
    refine at_aload_n (pc := 23) C 1 dX11_withdraw_23 rfl rfl ?_
    refine at_getr (pc := 24) (k' := 33) C 33 fw_11_36 kd0 rfl (Nat.le_of_ble_eq_true rfl) rfl rfl dX11_withdraw_24 ?_
    refine at_iconst (pc := 27) C dX11_withdraw_27 ?_
    refine at_iload_n (pc := 28) C 2 dX11_withdraw_28 rfl rfl ?_
    refine at_aload_n (pc := 29) C 1 dX11_withdraw_29 rfl rfl ?_
    refine at_getr (pc := 30) (k' := 29) C 29 fw_11_29 kd0 rfl (Nat.le_of_ble_eq_true rfl) rfl rfl dX11_withdraw_30 ?_
    refine at_getr (pc := 33) (k' := 30) C 1 fw_11_274 kd29 rfl (Nat.le_of_ble_eq_true rfl) rfl rfl dX11_withdraw_33 ?_
    refine at_iload_n (pc := 36) C 2 dX11_withdraw_36 rfl rfl ?_
    refine at_iaload (pc := 37) C kd30 b3 dX11_withdraw_37 ?_
    refine at_aload_n (pc := 38) C 1 dX11_withdraw_38 rfl rfl ?_
    refine at_getr (pc := 39) (k' := 29) C 29 fw_11_29 kd0 rfl (Nat.le_of_ble_eq_true rfl) rfl rfl dX11_withdraw_39 ?_
    refine at_getr (pc := 42) (k' := 31) C 2 fw_11_277 kd29 rfl (Nat.le_of_ble_eq_true rfl) rfl rfl dX11_withdraw_42 ?_
    refine at_iload_n (pc := 45) C 2 dX11_withdraw_45 rfl rfl ?_
    refine at_iaload (pc := 46) C kd31 b3 dX11_withdraw_46 ?_
    refine at_iload_n (pc := 47) C 0 dX11_withdraw_47 rfl rfl ?_
    obtain ⟨q4, eq4, hF⟩ := bind_some' hF
    refine at_callVv (pc := 48) (ci := 2) C (c_X2_push l g N 1 v1 (σ.1 30 v1) (σ.1 31 v1) (σ.1 32 v1) σ q4 (isB.r (Or.inr rfl)) h1 (ok 30 v1) (ok 31 v1) (ok 32 v1) ok eq4) kv_X2_push w878 kd33 rfl rfl rfl rfl (Nat.le_of_ble_eq_true rfl) ⟨rfl, rfl, (Nat.le_of_ble_eq_true rfl), (Nat.le_of_ble_eq_true rfl)⟩ dX11_withdraw_48 (fun okq4 => ?_)
    refine at_aload_n (pc := 51) C 1 dX11_withdraw_51 rfl rfl ?_
    refine at_getr (pc := 52) (k' := 29) C 29 fw_11_29 kd0 rfl (Nat.le_of_ble_eq_true rfl) rfl rfl dX11_withdraw_52 ?_
    refine at_iload_n (pc := 55) C 2 dX11_withdraw_55 rfl rfl ?_
    obtain ⟨q5, eq5, hF⟩ := bind_some' hF
    refine at_callVv (pc := 56) (ci := 5) C (c_X5_remove l g N 29 v1 q4 q5 kd29 h1 okq4 eq5) kv_X5_remove w928 kd29 rfl rfl rfl rfl (Nat.le_of_ble_eq_true rfl) ⟨rfl, rfl, (Nat.le_of_ble_eq_true rfl), (Nat.le_of_ble_eq_true rfl)⟩ dX11_withdraw_56 (fun okq5 => ?_)
    refine at_aload_n (pc := 59) C 1 dX11_withdraw_59 rfl rfl ?_
    refine at_iconst (pc := 60) C dX11_withdraw_60 ?_
    refine at_putz (pc := 61) (jz := 17) C fu_11_102 kd0 rfl (Nat.le_of_ble_eq_true rfl) rfl (Or.inl rfl) rfl dX11_withdraw_61 ?_
    refine at_iload_n (pc := 64) C 0 dX11_withdraw_64 rfl rfl ?_
    obtain rfl := Option.some.inj hF
    exact at_iret (pc := 65) C hr hlk (ok 32 v1) (OK_up (k := 0) (j := 17) okq5 (isB.r (Or.inl rfl))) dX11_withdraw_65
  · have hF := (if_pos c2).symm.trans hF
    refine at_iconst (pc := 11) C dX11_withdraw_11 ?_
    obtain rfl := Option.some.inj hF
    exact at_iret (pc := 12) C hr hlk (show inR (-1) from ⟨by decide, by decide⟩) ok dX11_withdraw_12
abbrev rm_X11_claimed : Room := { frames := 2, cells := 0, slots := 0, locals := 45 }
def F_X11_claimed (N : Nat) (v1 : Int) (v2 : Int) (σ : Sto) : Option (Int) :=
  (F_X5_has N 29 v1 σ).bind (fun q1 => if q1 = 0 then (some (-1)) else (inb v1 30 (if v2 = 0 then (some (σ.1 30 v1)) else (if v2 = 1 then (some (σ.1 31 v1)) else (if v2 = 2 then (some (σ.1 32 v1)) else (if v2 = 3 then (asB (σ.1 0 1) (fun b8 => (F_X0_paidFor N b8 (σ.1 30 v1) (σ.1 31 v1) (σ.1 32 v1) σ).bind (fun q9 => some q9))) else (some (-1))))))))
set_option maxHeartbeats 4000000 in
set_option maxRecDepth 100000 in
theorem c_X11_claimed (l : Launch) (g : Geo) (N : Nat) (v1 : Int) (v2 : Int) (σ : Sto) (res : Int) (h1 : inR v1) (h2 : inR v2) (ok : OK σ) (hF : F_X11_claimed N v1 v2 σ = some res) : MtI l g yX11_claimed cX11_claimed 5 (some .int) rm_X11_claimed [vr g 0, vi v1, vi v2] σ res σ inR := by
  intro sz
  refine Met.ofAt (own := RX11) (QQ := fun z => QI g z res σ inR) (by decide +kernel) (Nat.le_of_ble_eq_true rfl) rfl ?_
  intro p e s m args below meth c C hr hlk
  show At p l e rm_X11_claimed s m args below meth c 0 0 g 5 (MQ below (QI g s.heap.size res σ inR) args s 0 0 (AA g s.heap.size)) 0 [(0, vr g 0), (1, vi v1), (2, vi v2)] [] σ
  unfold F_X11_claimed at hF
  refine at_aload_n (pc := 0) C 0 dX11_claimed_0 rfl rfl ?_
  refine at_getr (pc := 1) (k' := 29) C 29 fw_11_29 kd0 rfl (Nat.le_of_ble_eq_true rfl) rfl rfl dX11_claimed_1 ?_
  refine at_iload_n (pc := 4) C 1 dX11_claimed_4 rfl rfl ?_
  obtain ⟨q1, eq1, hF⟩ := bind_some' hF
  refine at_callV (pc := 5) (ci := 5) C (c_X5_has l g N 29 v1 σ q1 kd29 h1 ok eq1) kv_X5_has w924 kd29 rfl rfl rfl rfl (Nat.le_of_ble_eq_true rfl) ⟨rfl, rfl, (Nat.le_of_ble_eq_true rfl), (Nat.le_of_ble_eq_true rfl)⟩ dX11_claimed_5 (fun tq1 okq1 => ?_)
  refine at_if_ne (pc := 8) (tgt := 13) C (isB.r tq1) dX11_claimed_8 rfl (fun c2 => ?_) (fun c2 => ?_)
  · have hF := (if_neg c2).symm.trans hF
    refine at_aload_n (pc := 13) C 0 dX11_claimed_13 rfl rfl ?_
    refine at_getr (pc := 14) (k' := 29) C 29 fw_11_29 kd0 rfl (Nat.le_of_ble_eq_true rfl) rfl rfl dX11_claimed_14 ?_
    refine at_getr (pc := 17) (k' := 30) C 1 fw_11_274 kd29 rfl (Nat.le_of_ble_eq_true rfl) rfl rfl dX11_claimed_17 ?_
    refine at_iload_n (pc := 20) C 1 dX11_claimed_20 rfl rfl ?_
    obtain ⟨b3, hF⟩ := inb_some hF
    refine at_iaload (pc := 21) C kd30 b3 dX11_claimed_21 ?_
    refine at_istore_n (pc := 22) (lv' := [(3, vi (σ.1 30 v1)), (0, vr g 0), (1, vi v1), (2, vi v2)]) C dX11_claimed_22 rfl (Nat.le_of_ble_eq_true rfl) rfl ?_
    refine at_aload_n (pc := 23) C 1 dX11_claimed_23 rfl rfl ?_
    refine at_getr (pc := 24) (k' := 29) C 29 fw_11_29 kd0 rfl (Nat.le_of_ble_eq_true rfl) rfl rfl dX11_claimed_24 ?_
    refine at_getr (pc := 27) (k' := 31) C 2 fw_11_277 kd29 rfl (Nat.le_of_ble_eq_true rfl) rfl rfl dX11_claimed_27 ?_
    refine at_iload_n (pc := 30) C 2 dX11_claimed_30 rfl rfl ?_
    refine at_iaload (pc := 31) C kd31 b3 dX11_claimed_31 ?_
    refine at_istore (pc := 32) (lv' := [(4, vi (σ.1 31 v1)), (3, vi (σ.1 30 v1)), (0, vr g 0), (1, vi v1), (2, vi v2)]) C dX11_claimed_32 (Nat.le_of_ble_eq_true rfl) rfl ?_
    refine at_iload_n (pc := 34) C 4 dX11_claimed_34 rfl rfl ?_
    by_cases c4 : v2 = 0
    · have hF := (if_pos c4).symm.trans hF
      refine at_tin (pc := 35) (off := 29) (tgt := 64) C dX11_claimed_35 h2 (by rw [c4]; decide) (by rw [c4]; decide) (by rw [c4]; rfl) rfl ?_
      refine at_iload_n (pc := 64) C 1 dX11_claimed_64 rfl rfl ?_
      obtain rfl := Option.some.inj hF
      exact at_iret (pc := 65) C hr hlk (ok 30 v1) ok dX11_claimed_65
    · have hF := (if_neg c4).symm.trans hF
      by_cases c5 : v2 = 1
      · have hF := (if_pos c5).symm.trans hF
        refine at_tin (pc := 35) (off := 31) (tgt := 66) C dX11_claimed_35 h2 (by rw [c5]; decide) (by rw [c5]; decide) (by rw [c5]; rfl) rfl ?_
        refine at_iload (pc := 66) C 0 dX11_claimed_66 rfl ?_
        obtain rfl := Option.some.inj hF
        exact at_iret (pc := 68) C hr hlk (ok 31 v1) ok dX11_claimed_68
      · have hF := (if_neg c5).symm.trans hF
        by_cases c6 : v2 = 2
        · have hF := (if_pos c6).symm.trans hF
          refine at_tin (pc := 35) (off := 34) (tgt := 69) C dX11_claimed_35 h2 (by rw [c6]; decide) (by rw [c6]; decide) (by rw [c6]; rfl) rfl ?_
          refine at_aload_n (pc := 69) C 2 dX11_claimed_69 rfl rfl ?_
          refine at_getr (pc := 70) (k' := 29) C 29 fw_11_29 kd0 rfl (Nat.le_of_ble_eq_true rfl) rfl rfl dX11_claimed_70 ?_
          refine at_getr (pc := 73) (k' := 32) C 3 fw_11_311 kd29 rfl (Nat.le_of_ble_eq_true rfl) rfl rfl dX11_claimed_73 ?_
          refine at_iload_n (pc := 76) C 3 dX11_claimed_76 rfl rfl ?_
          refine at_iaload (pc := 77) C kd32 b3 dX11_claimed_77 ?_
          obtain rfl := Option.some.inj hF
          exact at_iret (pc := 78) C hr hlk (ok 32 v1) ok dX11_claimed_78
        · have hF := (if_neg c6).symm.trans hF
          by_cases c7 : v2 = 3
          · have hF := (if_pos c7).symm.trans hF
            refine at_tin (pc := 35) (off := 44) (tgt := 79) C dX11_claimed_35 h2 (by rw [c7]; decide) (by rw [c7]; decide) (by rw [c7]; rfl) rfl ?_
            refine at_aload_n (pc := 79) C 2 dX11_claimed_79 rfl rfl ?_
            obtain ⟨b8, eb8, kb8, hF⟩ := asB_some hF
            refine at_getd (pc := 80) (jz := 1) (k2 := b8) C fw_11_19 kd0 rfl (Nat.le_of_ble_eq_true rfl) rfl rfl eb8 dX11_claimed_80 ?_
            refine at_iload_n (pc := 83) C 1 dX11_claimed_83 rfl rfl ?_
            refine at_iload (pc := 84) C 0 dX11_claimed_84 rfl ?_
            refine at_aload_n (pc := 86) C 2 dX11_claimed_86 rfl rfl ?_
            refine at_getr (pc := 87) (k' := 29) C 29 fw_11_29 kd0 rfl (Nat.le_of_ble_eq_true rfl) rfl rfl dX11_claimed_87 ?_
            refine at_getr (pc := 90) (k' := 32) C 3 fw_11_311 kd29 rfl (Nat.le_of_ble_eq_true rfl) rfl rfl dX11_claimed_90 ?_
            refine at_iload_n (pc := 93) C 3 dX11_claimed_93 rfl rfl ?_
            refine at_iaload (pc := 94) C kd32 b3 dX11_claimed_94 ?_
            obtain ⟨q9, eq9, hF⟩ := bind_some' hF
            refine at_callV (pc := 95) (ci := 0) C (c_X0_paidFor l g N b8 (σ.1 30 v1) (σ.1 31 v1) (σ.1 32 v1) σ q9 kb8 (ok 30 v1) (ok 31 v1) (ok 32 v1) ok eq9) kv_X0_paidFor w937 kb8 rfl rfl rfl rfl (Nat.le_of_ble_eq_true rfl) ⟨rfl, rfl, (Nat.le_of_ble_eq_true rfl), (Nat.le_of_ble_eq_true rfl)⟩ dX11_claimed_95 (fun tq9 okq9 => ?_)
            obtain rfl := Option.some.inj hF
            exact at_iret (pc := 98) C hr hlk tq9 ok dX11_claimed_98
          · have hF := (if_neg c7).symm.trans hF
            refine at_tout (pc := 35) (tgt := 99) C h2 dX11_claimed_35 (by omega) rfl ?_
            refine at_iconst (pc := 99) C dX11_claimed_99 ?_
            obtain rfl := Option.some.inj hF
            exact at_iret (pc := 100) C hr hlk (show inR (-1) from ⟨by decide, by decide⟩) ok dX11_claimed_100
  · have hF := (if_pos c2).symm.trans hF
    refine at_iconst (pc := 11) C dX11_claimed_11 ?_
    obtain rfl := Option.some.inj hF
    exact at_iret (pc := 12) C hr hlk (show inR (-1) from ⟨by decide, by decide⟩) ok dX11_claimed_12
abbrev rm_X11_refreshFlow : Room := { frames := 5, cells := 0, slots := 0, locals := 130 }
def F_X11_refreshFlow (N : Nat)  (σ : Sto) : Option (Sto) :=
  (F_X11_refreshNet N σ).bind (fun q1 => if (q1.1 0 17) = 0 then (asB (q1.1 0 1) (fun b3 => (F_X1_load N 58 b3 55 29 0 q1).bind (fun q4 => (F_X1_run N 58 q4).bind (fun q5 => some (upI q5 0 17 1))))) else (some q1))
set_option maxHeartbeats 4000000 in
set_option maxRecDepth 100000 in
theorem c_X11_refreshFlow (l : Launch) (g : Geo) (N : Nat)  (σ : Sto) (res : Sto)  (ok : OK σ) (hF : F_X11_refreshFlow N  σ = some res) : MtV l g yX11_refreshFlow cX11_refreshFlow 1 none rm_X11_refreshFlow [vr g 0] σ res := by
  intro sz
  refine Met.ofAt (own := RX11) (QQ := fun z => QV g z res) (by decide +kernel) (Nat.le_of_ble_eq_true rfl) rfl ?_
  intro p e s m args below meth c C hr hlk
  show At p l e rm_X11_refreshFlow s m args below meth c 0 0 g 1 (MQ below (QV g s.heap.size res) args s 0 0 (AA g s.heap.size)) 0 [(0, vr g 0)] [] σ
  unfold F_X11_refreshFlow at hF
  refine at_aload_n (pc := 0) C 0 dX11_refreshFlow_0 rfl rfl ?_
  obtain ⟨q1, eq1, hF⟩ := bind_some' hF
  refine at_callVv (pc := 1) (ci := 11) C (c_X11_refreshNet l g N  σ q1  ok eq1) kv_X11_refreshNet w791 kd0 rfl rfl rfl rfl (Nat.le_of_ble_eq_true rfl) ⟨rfl, rfl, (Nat.le_of_ble_eq_true rfl), (Nat.le_of_ble_eq_true rfl)⟩ dX11_refreshFlow_1 (fun okq1 => ?_)
  refine at_aload_n (pc := 4) C 0 dX11_refreshFlow_4 rfl rfl ?_
  refine at_geti (pc := 5) (jz := 17) C fw_11_102 kd0 rfl (Nat.le_of_ble_eq_true rfl) rfl rfl dX11_refreshFlow_5 ?_
  refine at_if_ne (pc := 8) (tgt := 43) C (okq1 0 17) dX11_refreshFlow_8 rfl (fun c2 => ?_) (fun c2 => ?_)
  · have hF := (if_neg c2).symm.trans hF
    obtain rfl := Option.some.inj hF
    exact at_vret (pc := 43) C hr hlk okq1 dX11_refreshFlow_43
  · have hF := (if_pos c2).symm.trans hF
    refine at_aload_n (pc := 11) C 0 dX11_refreshFlow_11 rfl rfl ?_
    refine at_getr (pc := 12) (k' := 58) C 58 fw_11_71 kd0 rfl (Nat.le_of_ble_eq_true rfl) rfl rfl dX11_refreshFlow_12 ?_
    refine at_aload_n (pc := 15) C 0 dX11_refreshFlow_15 rfl rfl ?_
    obtain ⟨b3, eb3, kb3, hF⟩ := asB_some hF
    refine at_getd (pc := 16) (jz := 1) (k2 := b3) C fw_11_19 kd0 rfl (Nat.le_of_ble_eq_true rfl) rfl rfl eb3 dX11_refreshFlow_16 ?_
    refine at_aload_n (pc := 19) C 0 dX11_refreshFlow_19 rfl rfl ?_
    refine at_getr (pc := 20) (k' := 55) C 55 fw_11_64 kd0 rfl (Nat.le_of_ble_eq_true rfl) rfl rfl dX11_refreshFlow_20 ?_
    refine at_aload_n (pc := 23) C 0 dX11_refreshFlow_23 rfl rfl ?_
    refine at_getr (pc := 24) (k' := 29) C 29 fw_11_29 kd0 rfl (Nat.le_of_ble_eq_true rfl) rfl rfl dX11_refreshFlow_24 ?_
    refine at_iconst (pc := 27) C dX11_refreshFlow_27 ?_
    obtain ⟨q4, eq4, hF⟩ := bind_some' hF
    refine at_callVv (pc := 28) (ci := 1) C (c_X1_load l g N 58 b3 55 29 0 q1 q4 kd58 kb3 kd55 kd29 (isB.r (Or.inl rfl)) okq1 eq4) kv_X1_load w949 kd58 rfl rfl rfl rfl (Nat.le_of_ble_eq_true rfl) ⟨rfl, rfl, (Nat.le_of_ble_eq_true rfl), (Nat.le_of_ble_eq_true rfl)⟩ dX11_refreshFlow_28 (fun okq4 => ?_)
    refine at_aload_n (pc := 31) C 0 dX11_refreshFlow_31 rfl rfl ?_
    refine at_getr (pc := 32) (k' := 58) C 58 fw_11_71 kd0 rfl (Nat.le_of_ble_eq_true rfl) rfl rfl dX11_refreshFlow_32 ?_
    obtain ⟨q5, eq5, hF⟩ := bind_some' hF
    refine at_callVv (pc := 35) (ci := 1) C (c_X1_run l g N 58 q4 q5 kd58 okq4 eq5) kv_X1_run w959 kd58 rfl rfl rfl rfl (Nat.le_of_ble_eq_true rfl) ⟨rfl, rfl, (Nat.le_of_ble_eq_true rfl), (Nat.le_of_ble_eq_true rfl)⟩ dX11_refreshFlow_35 (fun okq5 => ?_)
    refine at_aload_n (pc := 38) C 0 dX11_refreshFlow_38 rfl rfl ?_
    refine at_iconst (pc := 39) C dX11_refreshFlow_39 ?_
    refine at_putz (pc := 40) (jz := 17) C fu_11_102 kd0 rfl (Nat.le_of_ble_eq_true rfl) rfl (Or.inr rfl) rfl dX11_refreshFlow_40 ?_
    obtain rfl := Option.some.inj hF
    exact at_vret (pc := 43) C hr hlk (OK_up (k := 0) (j := 17) okq5 (isB.r (Or.inr rfl))) dX11_refreshFlow_43
abbrev rm_X11_claimAll : Room := { frames := 6, cells := 0, slots := 0, locals := 150 }
def F_X11_claimAll_J98 (N : Nat)  (v1 : Int) (σ : Sto) : Option (Int × Sto) :=
  if v1 ≤ 0 then (some (v1, σ)) else ((F_X2_push N 0 v1 0 0 0 σ).bind (fun q3 => some (v1, (upI q3 0 17 0))))
def F_X11_claimAll_J92 (N : Nat) (nx8 : (Int × Int × Sto) → Option (Int × Sto)) (v1 : Int) (v2 : Int) (σ : Sto) : Option (Int × Sto) :=
  nx8 (v1, (ja v2 1), σ)
def F_X11_claimAll_J86 (N : Nat) (nx8 : (Int × Int × Sto) → Option (Int × Sto)) (nx21 : (Int × Int × Sto) → Option (Int × Sto)) (v1 : Int) (v2 : Int) (v3 : Int) (σ : Sto) : Option (Int × Sto) :=
  nx21 (v1, (ja v3 1), σ)
def F_X11_claimAll_B21 (N : Nat) (nx8 : (Int × Int × Sto) → Option (Int × Sto)) (nx21 : (Int × Int × Sto) → Option (Int × Sto)) (v2 : Int) (v1 : Int) (v3 : Int) (σ : Sto) : Option (Int × Sto) :=
  asB (σ.1 0 1) (fun b6 => if (σ.1 b6 9) ≤ v3 then (F_X11_claimAll_J92 N nx8 v1 v2 σ) else (inb (ja (jm v2 12) v3) 144 (if (σ.1 63 (ja (jm v2 12) v3)) ≤ 0 then (F_X11_claimAll_J86 N nx8 nx21 v1 v2 v3 σ) else (if 30 ≤ (σ.1 29 3) then (F_X11_claimAll_J86 N nx8 nx21 v1 v2 v3 σ) else ((F_X5_insert N 29 (σ.1 29 3) v2 v3 (σ.1 63 (ja (jm v2 12) v3)) σ).bind (fun q11 => F_X11_claimAll_J86 N nx8 nx21 (ja v1 1) v2 v3 q11))))))
def F_X11_claimAll_B8 (N : Nat) (nx8 : (Int × Int × Sto) → Option (Int × Sto))  (v1 : Int) (v2 : Int) (σ : Sto) : Option (Int × Sto) :=
  asB (σ.1 0 1) (fun b4 => if (σ.1 b4 9) ≤ v2 then (F_X11_claimAll_J98 N  v1 σ) else (loopK (fun q nx21 => F_X11_claimAll_B21 N nx8 nx21 v2 q.1 q.2.1 q.2.2) N (v1, 0, σ)))
def F_X11_claimAll (N : Nat)  (σ : Sto) : Option (Int × Sto) :=
  (F_X11_refreshFlow N σ).bind (fun q1 => loopK (fun q nx8 => F_X11_claimAll_B8 N  nx8  q.1 q.2.1 q.2.2) N (0, 0, q1))
set_option maxHeartbeats 4000000 in
set_option maxRecDepth 100000 in
theorem c_X11_claimAll (l : Launch) (g : Geo) (N : Nat)  (σ : Sto) (res : Int × Sto)  (ok : OK σ) (hF : F_X11_claimAll N  σ = some res) : MtI l g yX11_claimAll cX11_claimAll 5 (some .int) rm_X11_claimAll [vr g 0] σ res.1 res.2 inR := by
  intro sz
  refine Met.ofAt (own := RX11) (QQ := fun z => QI g z res.1 res.2 inR) (by decide +kernel) (Nat.le_of_ble_eq_true rfl) rfl ?_
  intro p e s m args below meth c C hr hlk
  show At p l e rm_X11_claimAll s m args below meth c 0 0 g 5 (MQ below (QI g s.heap.size res.1 res.2 inR) args s 0 0 (AA g s.heap.size)) 0 [(0, vr g 0)] [] σ
  unfold F_X11_claimAll at hF
  refine at_aload_n (pc := 0) C 0 dX11_claimAll_0 rfl rfl ?_
  obtain ⟨q1, eq1, hF⟩ := bind_some' hF
  refine at_callVv (pc := 1) (ci := 11) C (c_X11_refreshFlow l g N  σ q1  ok eq1) kv_X11_refreshFlow w945 kd0 rfl rfl rfl rfl (Nat.le_of_ble_eq_true rfl) ⟨rfl, rfl, (Nat.le_of_ble_eq_true rfl), (Nat.le_of_ble_eq_true rfl)⟩ dX11_claimAll_1 (fun okq1 => ?_)
  refine at_iconst (pc := 4) C dX11_claimAll_4 ?_
  refine at_istore_n (pc := 5) (lv' := [(1, vi 0), (0, vr g 0)]) C dX11_claimAll_5 rfl (Nat.le_of_ble_eq_true rfl) rfl ?_
  refine at_iconst (pc := 6) C dX11_claimAll_6 ?_
  refine at_istore_n (pc := 7) (lv' := [(2, vi 0), (1, vi 0), (0, vr g 0)]) C dX11_claimAll_7 rfl (Nat.le_of_ble_eq_true rfl) rfl ?_
  have L8 : ∀ (v1 : Int) (v2 : Int) (σ : Sto), inR v1 → inR v2 → OK σ → loopK (fun q nx8 => F_X11_claimAll_B8 N  nx8  q.1 q.2.1 q.2.2) N (v1, v2, σ) = some res → At p l e rm_X11_claimAll s m args below meth c 0 0 g 5 (MQ below (QI g s.heap.size res.1 res.2 inR) args s 0 0 (AA g s.heap.size)) 8 [(0, vr g 0), (1, vi v1), (2, vi v2)] [] σ := by
    intro v1 v2 σ h1 h2 ok hF
    refine loopK_ind (res := res) (P := fun (q : Int × Int × Sto) => inR q.1 → inR q.2.1 → OK q.2.2 → At p l e rm_X11_claimAll s m args below meth c 0 0 g 5 (MQ below (QI g s.heap.size res.1 res.2 inR) args s 0 0 (AA g s.heap.size)) 8 [(0, vr g 0), (1, vi q.1), (2, vi q.2.1)] [] q.2.2) ?_ N _ hF h1 h2 ok
    intro nx8 q ih8 hF
    obtain ⟨v1, v2, σ⟩ := q
    intro h1 h2 ok
    have hF : F_X11_claimAll_B8 N  nx8  v1 v2 σ = some res := hF
    unfold F_X11_claimAll_B8 at hF
    have J98 : ∀ (v1 : Int) (σ : Sto), inR v1 → OK σ → F_X11_claimAll_J98 N  v1 σ = some res → At p l e rm_X11_claimAll s m args below meth c 0 0 g 5 (MQ below (QI g s.heap.size res.1 res.2 inR) args s 0 0 (AA g s.heap.size)) 98 [(0, vr g 0), (1, vi v1)] [] σ := by
      intro v1 σ h1 ok hF
      unfold F_X11_claimAll_J98 at hF
      refine at_iload_n (pc := 98) C 1 dX11_claimAll_98 rfl rfl ?_
      refine at_if_le (pc := 99) (tgt := 119) C h1 dX11_claimAll_99 rfl (fun c2 => ?_) (fun c2 => ?_)
      · have hF := (if_pos c2).symm.trans hF
        refine at_iload_n (pc := 119) C 1 dX11_claimAll_119 rfl rfl ?_
        obtain rfl := Option.some.inj hF
        exact at_iret (pc := 120) C hr hlk h1 ok dX11_claimAll_120
      · have hF := (if_neg c2).symm.trans hF
        refine at_aload_n (pc := 102) C 0 dX11_claimAll_102 rfl rfl ?_
        refine at_getr (pc := 103) (k' := 33) C 33 fw_11_36 kd0 rfl (Nat.le_of_ble_eq_true rfl) rfl rfl dX11_claimAll_103 ?_
        refine at_iconst (pc := 106) C dX11_claimAll_106 ?_
        refine at_iload_n (pc := 107) C 1 dX11_claimAll_107 rfl rfl ?_
        refine at_iconst (pc := 108) C dX11_claimAll_108 ?_
        refine at_iconst (pc := 109) C dX11_claimAll_109 ?_
        refine at_iconst (pc := 110) C dX11_claimAll_110 ?_
        obtain ⟨q3, eq3, hF⟩ := bind_some' hF
        refine at_callVv (pc := 111) (ci := 2) C (c_X2_push l g N 0 v1 0 0 0 σ q3 (isB.r (Or.inl rfl)) h1 (isB.r (Or.inl rfl)) (isB.r (Or.inl rfl)) (isB.r (Or.inl rfl)) ok eq3) kv_X2_push w878 kd33 rfl rfl rfl rfl (Nat.le_of_ble_eq_true rfl) ⟨rfl, rfl, (Nat.le_of_ble_eq_true rfl), (Nat.le_of_ble_eq_true rfl)⟩ dX11_claimAll_111 (fun okq3 => ?_)
        refine at_aload_n (pc := 114) C 0 dX11_claimAll_114 rfl rfl ?_
        refine at_iconst (pc := 115) C dX11_claimAll_115 ?_
        refine at_putz (pc := 116) (jz := 17) C fu_11_102 kd0 rfl (Nat.le_of_ble_eq_true rfl) rfl (Or.inl rfl) rfl dX11_claimAll_116 ?_
        refine at_iload_n (pc := 119) C 1 dX11_claimAll_119 rfl rfl ?_
        obtain rfl := Option.some.inj hF
        exact at_iret (pc := 120) C hr hlk h1 (OK_up (k := 0) (j := 17) okq3 (isB.r (Or.inl rfl))) dX11_claimAll_120
    refine at_iload_n (pc := 8) C 2 dX11_claimAll_8 rfl rfl ?_
    refine at_aload_n (pc := 9) C 0 dX11_claimAll_9 rfl rfl ?_
    obtain ⟨b4, eb4, kb4, hF⟩ := asB_some hF
    refine at_getd (pc := 10) (jz := 1) (k2 := b4) C fw_11_19 kd0 rfl (Nat.le_of_ble_eq_true rfl) rfl rfl eb4 dX11_claimAll_10 ?_
    refine at_geti (pc := 13) (jz := 9) C fw_11_324 kb4 rfl (Nat.le_of_ble_eq_true rfl) rfl rfl dX11_claimAll_13 ?_
    refine at_icmp_ge (pc := 16) (tgt := 98) C h2 (ok b4 9) dX11_claimAll_16 rfl (fun c5 => ?_) (fun c5 => ?_)
    · have hF := (if_pos c5).symm.trans hF
      refine at_sub (lv' := [(0, vr g 0), (1, vi v1)]) [0, 1] rfl ?_
      exact J98 v1 σ h1 ok hF
    · have hF := (if_neg c5).symm.trans hF
      refine at_iconst (pc := 19) C dX11_claimAll_19 ?_
      refine at_istore_n (pc := 20) (lv' := [(3, vi 0), (0, vr g 0), (1, vi v1), (2, vi v2)]) C dX11_claimAll_20 rfl (Nat.le_of_ble_eq_true rfl) rfl ?_
      have L21 : ∀ (v1 : Int) (v2 : Int) (v3 : Int) (σ : Sto), inR v1 → inR v2 → inR v3 → OK σ → loopK (fun q nx21 => F_X11_claimAll_B21 N nx8 nx21 v2 q.1 q.2.1 q.2.2) N (v1, v3, σ) = some res → At p l e rm_X11_claimAll s m args below meth c 0 0 g 5 (MQ below (QI g s.heap.size res.1 res.2 inR) args s 0 0 (AA g s.heap.size)) 21 [(0, vr g 0), (1, vi v1), (2, vi v2), (3, vi v3)] [] σ := by
        intro v1 v2 v3 σ h1 h2 h3 ok hF
        refine loopK_ind (res := res) (P := fun (q : Int × Int × Sto) => inR q.1 → inR q.2.1 → OK q.2.2 → At p l e rm_X11_claimAll s m args below meth c 0 0 g 5 (MQ below (QI g s.heap.size res.1 res.2 inR) args s 0 0 (AA g s.heap.size)) 21 [(0, vr g 0), (1, vi q.1), (2, vi v2), (3, vi q.2.1)] [] q.2.2) ?_ N _ hF h1 h3 ok
        intro nx21 q ih21 hF
        obtain ⟨v1, v3, σ⟩ := q
        intro h1 h3 ok
        have hF : F_X11_claimAll_B21 N nx8 nx21 v2 v1 v3 σ = some res := hF
        unfold F_X11_claimAll_B21 at hF
        have J92 : ∀ (v1 : Int) (v2 : Int) (σ : Sto), inR v1 → inR v2 → OK σ → F_X11_claimAll_J92 N nx8 v1 v2 σ = some res → At p l e rm_X11_claimAll s m args below meth c 0 0 g 5 (MQ below (QI g s.heap.size res.1 res.2 inR) args s 0 0 (AA g s.heap.size)) 92 [(0, vr g 0), (1, vi v1), (2, vi v2)] [] σ := by
          intro v1 v2 σ h1 h2 ok hF
          unfold F_X11_claimAll_J92 at hF
          refine at_iinc (pc := 92) (lv' := [(2, vi (ja v2 1)), (0, vr g 0), (1, vi v1)]) C 2 dX11_claimAll_92 rfl (Nat.le_of_ble_eq_true rfl) rfl ?_
          refine at_goto (pc := 95) (tgt := 8) C dX11_claimAll_95 rfl ?_
          refine at_sub (lv' := [(0, vr g 0), (1, vi v1), (2, vi (ja v2 1))]) [1, 2, 0] rfl ?_
          exact ih8 _ hF h1 (ja_R v2 1) ok
        refine at_iload_n (pc := 21) C 3 dX11_claimAll_21 rfl rfl ?_
        refine at_aload_n (pc := 22) C 0 dX11_claimAll_22 rfl rfl ?_
        obtain ⟨b6, eb6, kb6, hF⟩ := asB_some hF
        refine at_getd (pc := 23) (jz := 1) (k2 := b6) C fw_11_19 kd0 rfl (Nat.le_of_ble_eq_true rfl) rfl rfl eb6 dX11_claimAll_23 ?_
        refine at_geti (pc := 26) (jz := 9) C fw_11_324 kb6 rfl (Nat.le_of_ble_eq_true rfl) rfl rfl dX11_claimAll_26 ?_
        refine at_icmp_ge (pc := 29) (tgt := 92) C h3 (ok b6 9) dX11_claimAll_29 rfl (fun c7 => ?_) (fun c7 => ?_)
        · have hF := (if_pos c7).symm.trans hF
          refine at_sub (lv' := [(0, vr g 0), (1, vi v1), (2, vi v2)]) [0, 1, 2] rfl ?_
          exact J92 v1 v2 σ h1 h2 ok hF
        · have hF := (if_neg c7).symm.trans hF
          have J86 : ∀ (v1 : Int) (v3 : Int) (σ : Sto), inR v1 → inR v3 → OK σ → F_X11_claimAll_J86 N nx8 nx21 v1 v2 v3 σ = some res → At p l e rm_X11_claimAll s m args below meth c 0 0 g 5 (MQ below (QI g s.heap.size res.1 res.2 inR) args s 0 0 (AA g s.heap.size)) 86 [(0, vr g 0), (1, vi v1), (2, vi v2), (3, vi v3)] [] σ := by
            intro v1 v3 σ h1 h3 ok hF
            unfold F_X11_claimAll_J86 at hF
            refine at_iinc (pc := 86) (lv' := [(3, vi (ja v3 1)), (0, vr g 0), (1, vi v1), (2, vi v2)]) C 3 dX11_claimAll_86 rfl (Nat.le_of_ble_eq_true rfl) rfl ?_
            refine at_goto (pc := 89) (tgt := 21) C dX11_claimAll_89 rfl ?_
            refine at_sub (lv' := [(0, vr g 0), (1, vi v1), (2, vi v2), (3, vi (ja v3 1))]) [1, 2, 3, 0] rfl ?_
            exact ih21 _ hF h1 (ja_R v3 1) ok
          refine at_aload_n (pc := 32) C 0 dX11_claimAll_32 rfl rfl ?_
          refine at_getr (pc := 33) (k' := 58) C 58 fw_11_71 kd0 rfl (Nat.le_of_ble_eq_true rfl) rfl rfl dX11_claimAll_33 ?_
          refine at_getr (pc := 36) (k' := 63) C 5 fw_11_327 kd58 rfl (Nat.le_of_ble_eq_true rfl) rfl rfl dX11_claimAll_36 ?_
          refine at_iload_n (pc := 39) C 2 dX11_claimAll_39 rfl rfl ?_
          refine at_bipush (pc := 40) C dX11_claimAll_40 (by decide) ?_
          refine at_imul (pc := 42) C dX11_claimAll_42 ?_
          refine at_iload_n (pc := 43) C 3 dX11_claimAll_43 rfl rfl ?_
          refine at_iadd (pc := 44) C dX11_claimAll_44 ?_
          obtain ⟨b8, hF⟩ := inb_some hF
          refine at_iaload (pc := 45) C kd63 b8 dX11_claimAll_45 ?_
          refine at_istore (pc := 46) (lv' := [(4, vi (σ.1 63 (ja (jm v2 12) v3))), (0, vr g 0), (1, vi v1), (2, vi v2), (3, vi v3)]) C dX11_claimAll_46 (Nat.le_of_ble_eq_true rfl) rfl ?_
          refine at_iload (pc := 48) C 0 dX11_claimAll_48 rfl ?_
          refine at_if_le (pc := 50) (tgt := 86) C (ok 63 (ja (jm v2 12) v3)) dX11_claimAll_50 rfl (fun c9 => ?_) (fun c9 => ?_)
          · have hF := (if_pos c9).symm.trans hF
            refine at_sub (lv' := [(0, vr g 0), (1, vi v1), (2, vi v2), (3, vi v3)]) [1, 2, 3, 4] rfl ?_
            exact J86 v1 v3 σ h1 h3 ok hF
          · have hF := (if_neg c9).symm.trans hF
            refine at_aload_n (pc := 53) C 1 dX11_claimAll_53 rfl rfl ?_
            refine at_getr (pc := 54) (k' := 29) C 29 fw_11_29 kd0 rfl (Nat.le_of_ble_eq_true rfl) rfl rfl dX11_claimAll_54 ?_
            refine at_geti (pc := 57) (jz := 3) C fw_11_273 kd29 rfl (Nat.le_of_ble_eq_true rfl) rfl rfl dX11_claimAll_57 ?_
            refine at_bipush (pc := 60) C dX11_claimAll_60 (by decide) ?_
            refine at_icmp_ge (pc := 62) (tgt := 86) C (ok 29 3) (show inR 30 from ⟨by decide, by decide⟩) dX11_claimAll_62 rfl (fun c10 => ?_) (fun c10 => ?_)
            · have hF := (if_pos c10).symm.trans hF
              refine at_sub (lv' := [(0, vr g 0), (1, vi v1), (2, vi v2), (3, vi v3)]) [1, 2, 3, 4] rfl ?_
              exact J86 v1 v3 σ h1 h3 ok hF
            · have hF := (if_neg c10).symm.trans hF
              refine at_aload_n (pc := 65) C 1 dX11_claimAll_65 rfl rfl ?_
              refine at_getr (pc := 66) (k' := 29) C 29 fw_11_29 kd0 rfl (Nat.le_of_ble_eq_true rfl) rfl rfl dX11_claimAll_66 ?_
              refine at_aload_n (pc := 69) C 1 dX11_claimAll_69 rfl rfl ?_
              refine at_getr (pc := 70) (k' := 29) C 29 fw_11_29 kd0 rfl (Nat.le_of_ble_eq_true rfl) rfl rfl dX11_claimAll_70 ?_
              refine at_geti (pc := 73) (jz := 3) C fw_11_273 kd29 rfl (Nat.le_of_ble_eq_true rfl) rfl rfl dX11_claimAll_73 ?_
              refine at_iload_n (pc := 76) C 3 dX11_claimAll_76 rfl rfl ?_
              refine at_iload_n (pc := 77) C 4 dX11_claimAll_77 rfl rfl ?_
              refine at_iload (pc := 78) C 0 dX11_claimAll_78 rfl ?_
              obtain ⟨q11, eq11, hF⟩ := bind_some' hF
              refine at_callVv (pc := 80) (ci := 5) C (c_X5_insert l g N 29 (σ.1 29 3) v2 v3 (σ.1 63 (ja (jm v2 12) v3)) σ q11 kd29 (ok 29 3) h2 h3 (ok 63 (ja (jm v2 12) v3)) ok eq11) kv_X5_insert w916 kd29 rfl rfl rfl rfl (Nat.le_of_ble_eq_true rfl) ⟨rfl, rfl, (Nat.le_of_ble_eq_true rfl), (Nat.le_of_ble_eq_true rfl)⟩ dX11_claimAll_80 (fun okq11 => ?_)
              refine at_iinc (pc := 83) (lv' := [(1, vi (ja v1 1)), (4, vi (σ.1 63 (ja (jm v2 12) v3))), (0, vr g 0), (2, vi v2), (3, vi v3)]) C 2 dX11_claimAll_83 rfl (Nat.le_of_ble_eq_true rfl) rfl ?_
              refine at_sub (lv' := [(0, vr g 0), (1, vi (ja v1 1)), (2, vi v2), (3, vi v3)]) [2, 0, 3, 4] rfl ?_
              exact J86 (ja v1 1) v3 q11 (ja_R v1 1) h3 okq11 hF
      refine at_sub (lv' := [(0, vr g 0), (1, vi v1), (2, vi v2), (3, vi 0)]) [1, 2, 3, 0] rfl ?_
      exact L21 v1 v2 0 σ h1 h2 (isB.r (Or.inl rfl)) ok hF
  refine at_sub (lv' := [(0, vr g 0), (1, vi 0), (2, vi 0)]) [2, 1, 0] rfl ?_
  exact L8 0 0 q1 (isB.r (Or.inl rfl)) (isB.r (Or.inl rfl)) okq1 hF
abbrev rm_X11_result : Room := { frames := 2, cells := 0, slots := 0, locals := 74 }
def F_X11_result (N : Nat) (v1 : Int) (v2 : Int) (σ : Sto) : Option (Int × Sto) :=
  asB (σ.1 0 1) (fun b1 => (F_X0_hasPeriod N b1 v1 σ).bind (fun q2 => if q2 = 0 then (some (0, σ)) else (if v2 < (-99999) then (some (0, σ)) else (if 99999 < v2 then (some (0, σ)) else ((F_X5_touches N 29 v1 σ).bind (fun q6 => if q6 = 0 then (asB (σ.1 0 1) (fun b8 => inb v1 12 ((F_X2_push N 2 v1 (σ.1 (b8 + 7) v1) 0 0 σ).bind (fun q10 => asB (q10.1 0 1) (fun b11 => (F_X11_forgetNet N (upI q10 (b11 + 7) v1 v2)).bind (fun q12 => some (1, q12))))))) else (some (0, σ))))))))
set_option maxHeartbeats 4000000 in
set_option maxRecDepth 100000 in
theorem c_X11_result (l : Launch) (g : Geo) (N : Nat) (v1 : Int) (v2 : Int) (σ : Sto) (res : Int × Sto) (h1 : inR v1) (h2 : inR v2) (ok : OK σ) (hF : F_X11_result N v1 v2 σ = some res) : MtI l g yX11_result cX11_result 3 (some .boolean) rm_X11_result [vr g 0, vi v1, vi v2] σ res.1 res.2 isB := by
  intro sz
  refine Met.ofAt (own := RX11) (QQ := fun z => QI g z res.1 res.2 isB) (by decide +kernel) (Nat.le_of_ble_eq_true rfl) rfl ?_
  intro p e s m args below meth c C hr hlk
  show At p l e rm_X11_result s m args below meth c 0 0 g 3 (MQ below (QI g s.heap.size res.1 res.2 isB) args s 0 0 (AA g s.heap.size)) 0 [(0, vr g 0), (1, vi v1), (2, vi v2)] [] σ
  unfold F_X11_result at hF
  refine at_aload_n (pc := 0) C 0 dX11_result_0 rfl rfl ?_
  obtain ⟨b1, eb1, kb1, hF⟩ := asB_some hF
  refine at_getd (pc := 1) (jz := 1) (k2 := b1) C fw_11_19 kd0 rfl (Nat.le_of_ble_eq_true rfl) rfl rfl eb1 dX11_result_1 ?_
  refine at_iload_n (pc := 4) C 1 dX11_result_4 rfl rfl ?_
  obtain ⟨q2, eq2, hF⟩ := bind_some' hF
  refine at_callV (pc := 5) (ci := 0) C (c_X0_hasPeriod l g N b1 v1 σ q2 kb1 h1 ok eq2) kv_X0_hasPeriod w696 kb1 rfl rfl rfl rfl (Nat.le_of_ble_eq_true rfl) ⟨rfl, rfl, (Nat.le_of_ble_eq_true rfl), (Nat.le_of_ble_eq_true rfl)⟩ dX11_result_5 (fun tq2 okq2 => ?_)
  refine at_if_eq (pc := 8) (tgt := 36) C (isB.r tq2) dX11_result_8 rfl (fun c3 => ?_) (fun c3 => ?_)
  · have hF := (if_pos c3).symm.trans hF
    refine at_iconst (pc := 36) C dX11_result_36 ?_
    obtain rfl := Option.some.inj hF
    exact at_zret (pc := 37) C hr hlk (Or.inl rfl) ok dX11_result_37
  · have hF := (if_neg c3).symm.trans hF
    refine at_iload_n (pc := 11) C 2 dX11_result_11 rfl rfl ?_
    refine at_ldc_w (pc := 12) (n := (-99999)) C dX11_result_12 w1002 ?_
    refine at_icmp_lt (pc := 15) (tgt := 36) C h2 (show inR (-99999) from ⟨by decide, by decide⟩) dX11_result_15 rfl (fun c4 => ?_) (fun c4 => ?_)
    · have hF := (if_pos c4).symm.trans hF
      refine at_iconst (pc := 36) C dX11_result_36 ?_
      obtain rfl := Option.some.inj hF
      exact at_zret (pc := 37) C hr hlk (Or.inl rfl) ok dX11_result_37
    · have hF := (if_neg c4).symm.trans hF
      refine at_iload_n (pc := 18) C 2 dX11_result_18 rfl rfl ?_
      refine at_ldc_w (pc := 19) (n := 99999) C dX11_result_19 w915 ?_
      refine at_icmp_gt (pc := 22) (tgt := 36) C h2 (show inR 99999 from ⟨by decide, by decide⟩) dX11_result_22 rfl (fun c5 => ?_) (fun c5 => ?_)
      · have hF := (if_pos c5).symm.trans hF
        refine at_iconst (pc := 36) C dX11_result_36 ?_
        obtain rfl := Option.some.inj hF
        exact at_zret (pc := 37) C hr hlk (Or.inl rfl) ok dX11_result_37
      · have hF := (if_neg c5).symm.trans hF
        refine at_aload_n (pc := 25) C 0 dX11_result_25 rfl rfl ?_
        refine at_getr (pc := 26) (k' := 29) C 29 fw_11_29 kd0 rfl (Nat.le_of_ble_eq_true rfl) rfl rfl dX11_result_26 ?_
        refine at_iload_n (pc := 29) C 1 dX11_result_29 rfl rfl ?_
        obtain ⟨q6, eq6, hF⟩ := bind_some' hF
        refine at_callV (pc := 30) (ci := 5) C (c_X5_touches l g N 29 v1 σ q6 kd29 h1 ok eq6) kv_X5_touches w1003 kd29 rfl rfl rfl rfl (Nat.le_of_ble_eq_true rfl) ⟨rfl, rfl, (Nat.le_of_ble_eq_true rfl), (Nat.le_of_ble_eq_true rfl)⟩ dX11_result_30 (fun tq6 okq6 => ?_)
        refine at_if_eq (pc := 33) (tgt := 38) C (isB.r tq6) dX11_result_33 rfl (fun c7 => ?_) (fun c7 => ?_)
        · have hF := (if_pos c7).symm.trans hF
          refine at_aload_n (pc := 38) C 0 dX11_result_38 rfl rfl ?_
          refine at_getr (pc := 39) (k' := 33) C 33 fw_11_36 kd0 rfl (Nat.le_of_ble_eq_true rfl) rfl rfl dX11_result_39 ?_
          refine at_iconst (pc := 42) C dX11_result_42 ?_
          refine at_iload_n (pc := 43) C 1 dX11_result_43 rfl rfl ?_
          refine at_aload_n (pc := 44) C 0 dX11_result_44 rfl rfl ?_
          obtain ⟨b8, eb8, kb8, hF⟩ := asB_some hF
          refine at_getd (pc := 45) (jz := 1) (k2 := b8) C fw_11_19 kd0 rfl (Nat.le_of_ble_eq_true rfl) rfl rfl eb8 dX11_result_45 ?_
          refine at_getr (pc := 48) C 7 fw_11_178 kb8 rfl (Nat.le_of_ble_eq_true rfl) rfl rfl dX11_result_48 ?_
          refine at_iload_n (pc := 51) C 1 dX11_result_51 rfl rfl ?_
          obtain ⟨b9, hF⟩ := inb_some hF
          refine at_iaload (pc := 52) C (kf0_6 kb8) b9 dX11_result_52 ?_
          refine at_iconst (pc := 53) C dX11_result_53 ?_
          refine at_iconst (pc := 54) C dX11_result_54 ?_
          obtain ⟨q10, eq10, hF⟩ := bind_some' hF
          refine at_callVv (pc := 55) (ci := 2) C (c_X2_push l g N 2 v1 (σ.1 (b8 + 7) v1) 0 0 σ q10 (show inR 2 from ⟨by decide, by decide⟩) h1 (ok (b8 + 7) v1) (isB.r (Or.inl rfl)) (isB.r (Or.inl rfl)) ok eq10) kv_X2_push w878 kd33 rfl rfl rfl rfl (Nat.le_of_ble_eq_true rfl) ⟨rfl, rfl, (Nat.le_of_ble_eq_true rfl), (Nat.le_of_ble_eq_true rfl)⟩ dX11_result_55 (fun okq10 => ?_)
          refine at_aload_n (pc := 58) C 0 dX11_result_58 rfl rfl ?_
          obtain ⟨b11, eb11, kb11, hF⟩ := asB_some hF
          refine at_getd (pc := 59) (jz := 1) (k2 := b11) C fw_11_19 kd0 rfl (Nat.le_of_ble_eq_true rfl) rfl rfl eb11 dX11_result_59 ?_
          refine at_getr (pc := 62) C 7 fw_11_178 kb11 rfl (Nat.le_of_ble_eq_true rfl) rfl rfl dX11_result_62 ?_
          refine at_iload_n (pc := 65) C 1 dX11_result_65 rfl rfl ?_
          refine at_iload_n (pc := 66) C 2 dX11_result_66 rfl rfl ?_
          refine at_iastore (pc := 67) C (kf0_6 kb11) b9 dX11_result_67 ?_
          refine at_aload_n (pc := 68) C 0 dX11_result_68 rfl rfl ?_
          obtain ⟨q12, eq12, hF⟩ := bind_some' hF
          refine at_callVv (pc := 69) (ci := 11) C (c_X11_forgetNet l g N  (upI q10 (b11 + 7) v1 v2) q12  (OK_up (k := (b11 + 7)) (j := v1) okq10 h2) eq12) kv_X11_forgetNet w679 kd0 rfl rfl rfl rfl (Nat.le_of_ble_eq_true rfl) ⟨rfl, rfl, (Nat.le_of_ble_eq_true rfl), (Nat.le_of_ble_eq_true rfl)⟩ dX11_result_69 (fun okq12 => ?_)
          refine at_iconst (pc := 72) C dX11_result_72 ?_
          obtain rfl := Option.some.inj hF
          exact at_zret (pc := 73) C hr hlk (Or.inr rfl) okq12 dX11_result_73
        · have hF := (if_neg c7).symm.trans hF
          refine at_iconst (pc := 36) C dX11_result_36 ?_
          obtain rfl := Option.some.inj hF
          exact at_zret (pc := 37) C hr hlk (Or.inl rfl) ok dX11_result_37
abbrev rm_X11_relief : Room := { frames := 6, cells := 0, slots := 0, locals := 152 }
def F_X11_relief (N : Nat) (v1 : Int) (v2 : Int) (σ : Sto) : Option (Int × Sto) :=
  (F_X11_isLink N v1 v2 σ).bind (fun q1 => if q1.1 = 0 then (some ((-1), q1.2)) else ((F_X11_refreshFlow N q1.2).bind (fun q3 => inb (ja (jm v1 12) v2) 144 (some ((q3.1 63 (ja (jm v1 12) v2)), q3)))))
set_option maxHeartbeats 4000000 in
set_option maxRecDepth 100000 in
theorem c_X11_relief (l : Launch) (g : Geo) (N : Nat) (v1 : Int) (v2 : Int) (σ : Sto) (res : Int × Sto) (h1 : inR v1) (h2 : inR v2) (ok : OK σ) (hF : F_X11_relief N v1 v2 σ = some res) : MtI l g yX11_relief cX11_relief 3 (some .int) rm_X11_relief [vr g 0, vi v1, vi v2] σ res.1 res.2 inR := by
  intro sz
  refine Met.ofAt (own := RX11) (QQ := fun z => QI g z res.1 res.2 inR) (by decide +kernel) (Nat.le_of_ble_eq_true rfl) rfl ?_
  intro p e s m args below meth c C hr hlk
  show At p l e rm_X11_relief s m args below meth c 0 0 g 3 (MQ below (QI g s.heap.size res.1 res.2 inR) args s 0 0 (AA g s.heap.size)) 0 [(0, vr g 0), (1, vi v1), (2, vi v2)] [] σ
  unfold F_X11_relief at hF
  refine at_aload_n (pc := 0) C 0 dX11_relief_0 rfl rfl ?_
  refine at_iload_n (pc := 1) C 1 dX11_relief_1 rfl rfl ?_
  refine at_iload_n (pc := 2) C 2 dX11_relief_2 rfl rfl ?_
  obtain ⟨q1, eq1, hF⟩ := bind_some' hF
  refine at_callV (pc := 3) (ci := 11) C (c_X11_isLink l g N v1 v2 σ q1 h1 h2 ok eq1) kv_X11_isLink w895 kd0 rfl rfl rfl rfl (Nat.le_of_ble_eq_true rfl) ⟨rfl, rfl, (Nat.le_of_ble_eq_true rfl), (Nat.le_of_ble_eq_true rfl)⟩ dX11_relief_3 (fun tq1 okq1 => ?_)
  refine at_if_ne (pc := 6) (tgt := 11) C (isB.r tq1) dX11_relief_6 rfl (fun c2 => ?_) (fun c2 => ?_)
  · have hF := (if_neg c2).symm.trans hF
    refine at_aload_n (pc := 11) C 0 dX11_relief_11 rfl rfl ?_
    obtain ⟨q3, eq3, hF⟩ := bind_some' hF
    refine at_callVv (pc := 12) (ci := 11) C (c_X11_refreshFlow l g N  q1.2 q3  okq1 eq3) kv_X11_refreshFlow w945 kd0 rfl rfl rfl rfl (Nat.le_of_ble_eq_true rfl) ⟨rfl, rfl, (Nat.le_of_ble_eq_true rfl), (Nat.le_of_ble_eq_true rfl)⟩ dX11_relief_12 (fun okq3 => ?_)
    refine at_aload_n (pc := 15) C 0 dX11_relief_15 rfl rfl ?_
    refine at_getr (pc := 16) (k' := 58) C 58 fw_11_71 kd0 rfl (Nat.le_of_ble_eq_true rfl) rfl rfl dX11_relief_16 ?_
    refine at_getr (pc := 19) (k' := 63) C 5 fw_11_327 kd58 rfl (Nat.le_of_ble_eq_true rfl) rfl rfl dX11_relief_19 ?_
    refine at_iload_n (pc := 22) C 1 dX11_relief_22 rfl rfl ?_
    refine at_bipush (pc := 23) C dX11_relief_23 (by decide) ?_
    refine at_imul (pc := 25) C dX11_relief_25 ?_
    refine at_iload_n (pc := 26) C 2 dX11_relief_26 rfl rfl ?_
    refine at_iadd (pc := 27) C dX11_relief_27 ?_
    obtain ⟨b4, hF⟩ := inb_some hF
    refine at_iaload (pc := 28) C kd63 b4 dX11_relief_28 ?_
    obtain rfl := Option.some.inj hF
    exact at_iret (pc := 29) C hr hlk (okq3 63 (ja (jm v1 12) v2)) okq3 dX11_relief_29
  · have hF := (if_pos c2).symm.trans hF
    refine at_iconst (pc := 9) C dX11_relief_9 ?_
    obtain rfl := Option.some.inj hF
    exact at_iret (pc := 10) C hr hlk (show inR (-1) from ⟨by decide, by decide⟩) okq1 dX11_relief_10
abbrev rm_X11_solved : Room := { frames := 6, cells := 0, slots := 0, locals := 150 }
def F_X11_solved (N : Nat) (v1 : Int) (σ : Sto) : Option (Int × Sto) :=
  if v1 < 0 then (some ((-1), σ)) else (if v1 ≤ 3 then ((F_X11_refreshFlow N σ).bind (fun q3 => if v1 = 0 then (some ((q3.1 58 13), q3)) else (if v1 = 1 then ((F_X1_totalPrice N 58 q3).bind (fun q6 => some (q6, q3))) else (if v1 = 2 then (some ((q3.1 58 12), q3)) else ((F_X1_usedLinks N 58 q3).bind (fun q8 => some (q8, q3))))))) else (some ((-1), σ)))
set_option maxHeartbeats 4000000 in
set_option maxRecDepth 100000 in
theorem c_X11_solved (l : Launch) (g : Geo) (N : Nat) (v1 : Int) (σ : Sto) (res : Int × Sto) (h1 : inR v1) (ok : OK σ) (hF : F_X11_solved N v1 σ = some res) : MtL l g yX11_solved cX11_solved 2 (some .long) rm_X11_solved [vr g 0, vi v1] σ res.1 res.2 := by
  intro sz
  refine Met.ofAt (own := RX11) (QQ := fun z => QL g z res.1 res.2) (by decide +kernel) (Nat.le_of_ble_eq_true rfl) rfl ?_
  intro p e s m args below meth c C hr hlk
  show At p l e rm_X11_solved s m args below meth c 0 0 g 2 (MQ below (QL g s.heap.size res.1 res.2) args s 0 0 (AA g s.heap.size)) 0 [(0, vr g 0), (1, vi v1)] [] σ
  unfold F_X11_solved at hF
  refine at_iload_n (pc := 0) C 1 dX11_solved_0 rfl rfl ?_
  refine at_if_lt (pc := 1) (tgt := 9) C h1 dX11_solved_1 rfl (fun c1 => ?_) (fun c1 => ?_)
  · have hF := (if_pos c1).symm.trans hF
    refine at_ldc2l (pc := 9) (n := (-1)) C dX11_solved_9 w1016 ?_
    obtain rfl := Option.some.inj hF
    exact at_lret (pc := 12) C hr hlk (show inL (-1) from ⟨by decide, by decide⟩) ok dX11_solved_12
  · have hF := (if_neg c1).symm.trans hF
    refine at_iload_n (pc := 4) C 1 dX11_solved_4 rfl rfl ?_
    refine at_iconst (pc := 5) C dX11_solved_5 ?_
    refine at_icmp_le (pc := 6) (tgt := 13) C h1 (show inR 3 from ⟨by decide, by decide⟩) dX11_solved_6 rfl (fun c2 => ?_) (fun c2 => ?_)
    · have hF := (if_pos c2).symm.trans hF
      refine at_aload_n (pc := 13) C 0 dX11_solved_13 rfl rfl ?_
      obtain ⟨q3, eq3, hF⟩ := bind_some' hF
      refine at_callVv (pc := 14) (ci := 11) C (c_X11_refreshFlow l g N  σ q3  ok eq3) kv_X11_refreshFlow w945 kd0 rfl rfl rfl rfl (Nat.le_of_ble_eq_true rfl) ⟨rfl, rfl, (Nat.le_of_ble_eq_true rfl), (Nat.le_of_ble_eq_true rfl)⟩ dX11_solved_14 (fun okq3 => ?_)
      refine at_iload_n (pc := 17) C 1 dX11_solved_17 rfl rfl ?_
      by_cases c4 : v1 = 0
      · have hF := (if_pos c4).symm.trans hF
        refine at_tin (pc := 18) (off := 26) (tgt := 44) C dX11_solved_18 h1 (by rw [c4]; decide) (by rw [c4]; decide) (by rw [c4]; rfl) rfl ?_
        refine at_aload_n (pc := 44) C 0 dX11_solved_44 rfl rfl ?_
        refine at_getr (pc := 45) (k' := 58) C 58 fw_11_71 kd0 rfl (Nat.le_of_ble_eq_true rfl) rfl rfl dX11_solved_45 ?_
        refine at_geti (pc := 48) (jz := 13) C fw_11_336 kd58 rfl (Nat.le_of_ble_eq_true rfl) rfl rfl dX11_solved_48 ?_
        refine at_i2l (pc := 51) C (okq3 58 13) dX11_solved_51 ?_
        obtain rfl := Option.some.inj hF
        exact at_lret (pc := 52) C hr hlk (inR.lo (okq3 58 13)) okq3 dX11_solved_52
      · have hF := (if_neg c4).symm.trans hF
        by_cases c5 : v1 = 1
        · have hF := (if_pos c5).symm.trans hF
          refine at_tin (pc := 18) (off := 35) (tgt := 53) C dX11_solved_18 h1 (by rw [c5]; decide) (by rw [c5]; decide) (by rw [c5]; rfl) rfl ?_
          refine at_aload_n (pc := 53) C 0 dX11_solved_53 rfl rfl ?_
          refine at_getr (pc := 54) (k' := 58) C 58 fw_11_71 kd0 rfl (Nat.le_of_ble_eq_true rfl) rfl rfl dX11_solved_54 ?_
          obtain ⟨q6, eq6, hF⟩ := bind_some' hF
          refine at_callVl (pc := 57) (ci := 1) C (c_X1_totalPrice l g N 58 q3 q6 kd58 okq3 eq6) kv_X1_totalPrice w1017 kd58 rfl rfl rfl rfl (Nat.le_of_ble_eq_true rfl) ⟨rfl, rfl, (Nat.le_of_ble_eq_true rfl), (Nat.le_of_ble_eq_true rfl)⟩ dX11_solved_57 (fun tq6 okq6 => ?_)
          obtain rfl := Option.some.inj hF
          exact at_lret (pc := 60) C hr hlk tq6 okq3 dX11_solved_60
        · have hF := (if_neg c5).symm.trans hF
          by_cases c7 : v1 = 2
          · have hF := (if_pos c7).symm.trans hF
            refine at_tin (pc := 18) (off := 43) (tgt := 61) C dX11_solved_18 h1 (by rw [c7]; decide) (by rw [c7]; decide) (by rw [c7]; rfl) rfl ?_
            refine at_aload_n (pc := 61) C 0 dX11_solved_61 rfl rfl ?_
            refine at_getr (pc := 62) (k' := 58) C 58 fw_11_71 kd0 rfl (Nat.le_of_ble_eq_true rfl) rfl rfl dX11_solved_62 ?_
            refine at_geti (pc := 65) (jz := 12) C fw_11_343 kd58 rfl (Nat.le_of_ble_eq_true rfl) rfl rfl dX11_solved_65 ?_
            refine at_i2l (pc := 68) C (okq3 58 12) dX11_solved_68 ?_
            obtain rfl := Option.some.inj hF
            exact at_lret (pc := 69) C hr hlk (inR.lo (okq3 58 12)) okq3 dX11_solved_69
          · have hF := (if_neg c7).symm.trans hF
            refine at_tout (pc := 18) (tgt := 70) C h1 dX11_solved_18 (by omega) rfl ?_
            refine at_aload_n (pc := 70) C 0 dX11_solved_70 rfl rfl ?_
            refine at_getr (pc := 71) (k' := 58) C 58 fw_11_71 kd0 rfl (Nat.le_of_ble_eq_true rfl) rfl rfl dX11_solved_71 ?_
            obtain ⟨q8, eq8, hF⟩ := bind_some' hF
            refine at_callV (pc := 74) (ci := 1) C (c_X1_usedLinks l g N 58 q3 q8 kd58 okq3 eq8) kv_X1_usedLinks w1021 kd58 rfl rfl rfl rfl (Nat.le_of_ble_eq_true rfl) ⟨rfl, rfl, (Nat.le_of_ble_eq_true rfl), (Nat.le_of_ble_eq_true rfl)⟩ dX11_solved_74 (fun tq8 okq8 => ?_)
            refine at_i2l (pc := 77) C tq8 dX11_solved_77 ?_
            obtain rfl := Option.some.inj hF
            exact at_lret (pc := 78) C hr hlk (inR.lo tq8) okq3 dX11_solved_78
    · have hF := (if_neg c2).symm.trans hF
      refine at_ldc2l (pc := 9) (n := (-1)) C dX11_solved_9 w1016 ?_
      obtain rfl := Option.some.inj hF
      exact at_lret (pc := 12) C hr hlk (show inL (-1) from ⟨by decide, by decide⟩) ok dX11_solved_12
abbrev rm_X11_reached : Room := { frames := 6, cells := 0, slots := 0, locals := 150 }
def F_X11_reached (N : Nat)  (σ : Sto) : Option (Int × Sto) :=
  (F_X11_refreshFlow N σ).bind (fun q1 => (F_X1_reachedBits N 58 q1).bind (fun q2 => some (q2, q1)))
set_option maxHeartbeats 4000000 in
set_option maxRecDepth 100000 in
theorem c_X11_reached (l : Launch) (g : Geo) (N : Nat)  (σ : Sto) (res : Int × Sto)  (ok : OK σ) (hF : F_X11_reached N  σ = some res) : MtI l g yX11_reached cX11_reached 1 (some .int) rm_X11_reached [vr g 0] σ res.1 res.2 inR := by
  intro sz
  refine Met.ofAt (own := RX11) (QQ := fun z => QI g z res.1 res.2 inR) (by decide +kernel) (Nat.le_of_ble_eq_true rfl) rfl ?_
  intro p e s m args below meth c C hr hlk
  show At p l e rm_X11_reached s m args below meth c 0 0 g 1 (MQ below (QI g s.heap.size res.1 res.2 inR) args s 0 0 (AA g s.heap.size)) 0 [(0, vr g 0)] [] σ
  unfold F_X11_reached at hF
  refine at_aload_n (pc := 0) C 0 dX11_reached_0 rfl rfl ?_
  obtain ⟨q1, eq1, hF⟩ := bind_some' hF
  refine at_callVv (pc := 1) (ci := 11) C (c_X11_refreshFlow l g N  σ q1  ok eq1) kv_X11_refreshFlow w945 kd0 rfl rfl rfl rfl (Nat.le_of_ble_eq_true rfl) ⟨rfl, rfl, (Nat.le_of_ble_eq_true rfl), (Nat.le_of_ble_eq_true rfl)⟩ dX11_reached_1 (fun okq1 => ?_)
  refine at_aload_n (pc := 4) C 0 dX11_reached_4 rfl rfl ?_
  refine at_getr (pc := 5) (k' := 58) C 58 fw_11_71 kd0 rfl (Nat.le_of_ble_eq_true rfl) rfl rfl dX11_reached_5 ?_
  obtain ⟨q2, eq2, hF⟩ := bind_some' hF
  refine at_callV (pc := 8) (ci := 1) C (c_X1_reachedBits l g N 58 q1 q2 kd58 okq1 eq2) kv_X1_reachedBits w1029 kd58 rfl rfl rfl rfl (Nat.le_of_ble_eq_true rfl) ⟨rfl, rfl, (Nat.le_of_ble_eq_true rfl), (Nat.le_of_ble_eq_true rfl)⟩ dX11_reached_8 (fun tq2 okq2 => ?_)
  obtain rfl := Option.some.inj hF
  exact at_iret (pc := 11) C hr hlk tq2 okq1 dX11_reached_11
abbrev rm_X11_left : Room := { frames := 6, cells := 0, slots := 0, locals := 150 }
def F_X11_left (N : Nat) (v1 : Int) (σ : Sto) : Option (Int × Sto) :=
  asB (σ.1 0 1) (fun b1 => (F_X0_hasPeriod N b1 v1 σ).bind (fun q2 => if q2 = 0 then (some ((-1), σ)) else ((F_X11_refreshFlow N σ).bind (fun q4 => inb v1 12 (some ((q4.1 60 v1), q4))))))
set_option maxHeartbeats 4000000 in
set_option maxRecDepth 100000 in
theorem c_X11_left (l : Launch) (g : Geo) (N : Nat) (v1 : Int) (σ : Sto) (res : Int × Sto) (h1 : inR v1) (ok : OK σ) (hF : F_X11_left N v1 σ = some res) : MtI l g yX11_left cX11_left 2 (some .int) rm_X11_left [vr g 0, vi v1] σ res.1 res.2 inR := by
  intro sz
  refine Met.ofAt (own := RX11) (QQ := fun z => QI g z res.1 res.2 inR) (by decide +kernel) (Nat.le_of_ble_eq_true rfl) rfl ?_
  intro p e s m args below meth c C hr hlk
  show At p l e rm_X11_left s m args below meth c 0 0 g 2 (MQ below (QI g s.heap.size res.1 res.2 inR) args s 0 0 (AA g s.heap.size)) 0 [(0, vr g 0), (1, vi v1)] [] σ
  unfold F_X11_left at hF
  refine at_aload_n (pc := 0) C 0 dX11_left_0 rfl rfl ?_
  obtain ⟨b1, eb1, kb1, hF⟩ := asB_some hF
  refine at_getd (pc := 1) (jz := 1) (k2 := b1) C fw_11_19 kd0 rfl (Nat.le_of_ble_eq_true rfl) rfl rfl eb1 dX11_left_1 ?_
  refine at_iload_n (pc := 4) C 1 dX11_left_4 rfl rfl ?_
  obtain ⟨q2, eq2, hF⟩ := bind_some' hF
  refine at_callV (pc := 5) (ci := 0) C (c_X0_hasPeriod l g N b1 v1 σ q2 kb1 h1 ok eq2) kv_X0_hasPeriod w696 kb1 rfl rfl rfl rfl (Nat.le_of_ble_eq_true rfl) ⟨rfl, rfl, (Nat.le_of_ble_eq_true rfl), (Nat.le_of_ble_eq_true rfl)⟩ dX11_left_5 (fun tq2 okq2 => ?_)
  refine at_if_ne (pc := 8) (tgt := 13) C (isB.r tq2) dX11_left_8 rfl (fun c3 => ?_) (fun c3 => ?_)
  · have hF := (if_neg c3).symm.trans hF
    refine at_aload_n (pc := 13) C 0 dX11_left_13 rfl rfl ?_
    obtain ⟨q4, eq4, hF⟩ := bind_some' hF
    refine at_callVv (pc := 14) (ci := 11) C (c_X11_refreshFlow l g N  σ q4  ok eq4) kv_X11_refreshFlow w945 kd0 rfl rfl rfl rfl (Nat.le_of_ble_eq_true rfl) ⟨rfl, rfl, (Nat.le_of_ble_eq_true rfl), (Nat.le_of_ble_eq_true rfl)⟩ dX11_left_14 (fun okq4 => ?_)
    refine at_aload_n (pc := 17) C 0 dX11_left_17 rfl rfl ?_
    refine at_getr (pc := 18) (k' := 58) C 58 fw_11_71 kd0 rfl (Nat.le_of_ble_eq_true rfl) rfl rfl dX11_left_18 ?_
    refine at_getr (pc := 21) (k' := 60) C 2 fw_11_352 kd58 rfl (Nat.le_of_ble_eq_true rfl) rfl rfl dX11_left_21 ?_
    refine at_iload_n (pc := 24) C 1 dX11_left_24 rfl rfl ?_
    obtain ⟨b5, hF⟩ := inb_some hF
    refine at_iaload (pc := 25) C kd60 b5 dX11_left_25 ?_
    obtain rfl := Option.some.inj hF
    exact at_iret (pc := 26) C hr hlk (okq4 60 v1) okq4 dX11_left_26
  · have hF := (if_pos c3).symm.trans hF
    refine at_iconst (pc := 11) C dX11_left_11 ?_
    obtain rfl := Option.some.inj hF
    exact at_iret (pc := 12) C hr hlk (show inR (-1) from ⟨by decide, by decide⟩) ok dX11_left_12
abbrev rm_X11_route : Room := { frames := 6, cells := 0, slots := 0, locals := 150 }
def F_X11_route (N : Nat) (v1 : Int) (σ : Sto) : Option (Int × Sto) :=
  if 0 ≤ v1 then ((F_X11_refreshFlow N σ).bind (fun q2 => if (q2.1 58 10) ≤ v1 then (some ((-2), q2)) else (inb v1 12 (some ((q2.1 67 v1), q2))))) else (some ((-1), σ))
set_option maxHeartbeats 4000000 in
set_option maxRecDepth 100000 in
theorem c_X11_route (l : Launch) (g : Geo) (N : Nat) (v1 : Int) (σ : Sto) (res : Int × Sto) (h1 : inR v1) (ok : OK σ) (hF : F_X11_route N v1 σ = some res) : MtI l g yX11_route cX11_route 2 (some .int) rm_X11_route [vr g 0, vi v1] σ res.1 res.2 inR := by
  intro sz
  refine Met.ofAt (own := RX11) (QQ := fun z => QI g z res.1 res.2 inR) (by decide +kernel) (Nat.le_of_ble_eq_true rfl) rfl ?_
  intro p e s m args below meth c C hr hlk
  show At p l e rm_X11_route s m args below meth c 0 0 g 2 (MQ below (QI g s.heap.size res.1 res.2 inR) args s 0 0 (AA g s.heap.size)) 0 [(0, vr g 0), (1, vi v1)] [] σ
  unfold F_X11_route at hF
  refine at_iload_n (pc := 0) C 1 dX11_route_0 rfl rfl ?_
  refine at_if_ge (pc := 1) (tgt := 6) C h1 dX11_route_1 rfl (fun c1 => ?_) (fun c1 => ?_)
  · have hF := (if_pos c1).symm.trans hF
    refine at_aload_n (pc := 6) C 0 dX11_route_6 rfl rfl ?_
    obtain ⟨q2, eq2, hF⟩ := bind_some' hF
    refine at_callVv (pc := 7) (ci := 11) C (c_X11_refreshFlow l g N  σ q2  ok eq2) kv_X11_refreshFlow w945 kd0 rfl rfl rfl rfl (Nat.le_of_ble_eq_true rfl) ⟨rfl, rfl, (Nat.le_of_ble_eq_true rfl), (Nat.le_of_ble_eq_true rfl)⟩ dX11_route_7 (fun okq2 => ?_)
    refine at_iload_n (pc := 10) C 1 dX11_route_10 rfl rfl ?_
    refine at_aload_n (pc := 11) C 0 dX11_route_11 rfl rfl ?_
    refine at_getr (pc := 12) (k' := 58) C 58 fw_11_71 kd0 rfl (Nat.le_of_ble_eq_true rfl) rfl rfl dX11_route_12 ?_
    refine at_geti (pc := 15) (jz := 10) C fw_11_355 kd58 rfl (Nat.le_of_ble_eq_true rfl) rfl rfl dX11_route_15 ?_
    refine at_icmp_ge (pc := 18) (tgt := 33) C h1 (okq2 58 10) dX11_route_18 rfl (fun c3 => ?_) (fun c3 => ?_)
    · have hF := (if_pos c3).symm.trans hF
      refine at_bipush (pc := 33) C dX11_route_33 (by decide) ?_
      obtain rfl := Option.some.inj hF
      exact at_iret (pc := 35) C hr hlk (show inR (-2) from ⟨by decide, by decide⟩) okq2 dX11_route_35
    · have hF := (if_neg c3).symm.trans hF
      refine at_aload_n (pc := 21) C 0 dX11_route_21 rfl rfl ?_
      refine at_getr (pc := 22) (k' := 58) C 58 fw_11_71 kd0 rfl (Nat.le_of_ble_eq_true rfl) rfl rfl dX11_route_22 ?_
      refine at_getr (pc := 25) (k' := 67) C 9 fw_11_358 kd58 rfl (Nat.le_of_ble_eq_true rfl) rfl rfl dX11_route_25 ?_
      refine at_iload_n (pc := 28) C 1 dX11_route_28 rfl rfl ?_
      obtain ⟨b4, hF⟩ := inb_some hF
      refine at_iaload (pc := 29) C kd67 b4 dX11_route_29 ?_
      refine at_goto (pc := 30) (tgt := 35) C dX11_route_30 rfl ?_
      obtain rfl := Option.some.inj hF
      exact at_iret (pc := 35) C hr hlk (okq2 67 v1) okq2 dX11_route_35
  · have hF := (if_neg c1).symm.trans hF
    refine at_iconst (pc := 4) C dX11_route_4 ?_
    obtain rfl := Option.some.inj hF
    exact at_iret (pc := 5) C hr hlk (show inR (-1) from ⟨by decide, by decide⟩) ok dX11_route_5
abbrev rm_X11_dearest : Room := { frames := 6, cells := 0, slots := 0, locals := 150 }
def F_X11_dearest_J98 (N : Nat) (nx11 : (Int × Int × Int) → Option (Int × Sto)) (v1 : Int) (v2 : Int) (v3 : Int) (σ : Sto) : Option (Int × Sto) :=
  nx11 (v1, v2, (ja v3 1))
def F_X11_dearest_J92 (N : Nat) (nx11 : (Int × Int × Int) → Option (Int × Sto)) (nx25 : (Int × Int × Int) → Option (Int × Sto)) (v1 : Int) (v2 : Int) (v3 : Int) (v4 : Int) (σ : Sto) : Option (Int × Sto) :=
  nx25 (v1, v2, (ja v4 1))
def F_X11_dearest_B25 (N : Nat) (nx11 : (Int × Int × Int) → Option (Int × Sto)) (nx25 : (Int × Int × Int) → Option (Int × Sto)) (v3 : Int) (v1 : Int) (v2 : Int) (v4 : Int) (σ : Sto) : Option (Int × Sto) :=
  asB (σ.1 0 1) (fun b4 => if (σ.1 b4 9) ≤ v4 then (F_X11_dearest_J98 N nx11 v1 v2 v3 σ) else (inb (ja (jm v3 12) v4) 144 (if (σ.1 63 (ja (jm v3 12) v4)) ≤ 0 then (F_X11_dearest_J92 N nx11 nx25 v1 v2 v3 v4 σ) else (if (σ.1 57 (ja (jm v3 12) v4)) ≤ v2 then (F_X11_dearest_J92 N nx11 nx25 v1 v2 v3 v4 σ) else (F_X11_dearest_J92 N nx11 nx25 (ja (jm 16 v3) v4) (σ.1 57 (ja (jm v3 12) v4)) v3 v4 σ)))))
def F_X11_dearest_B11 (N : Nat) (nx11 : (Int × Int × Int) → Option (Int × Sto))  (v1 : Int) (v2 : Int) (v3 : Int) (σ : Sto) : Option (Int × Sto) :=
  asB (σ.1 0 1) (fun b2 => if (σ.1 b2 9) ≤ v3 then (some (v1, σ)) else (loopK (fun q nx25 => F_X11_dearest_B25 N nx11 nx25 v3 q.1 q.2.1 q.2.2 σ) N (v1, v2, 0)))
def F_X11_dearest (N : Nat)  (σ : Sto) : Option (Int × Sto) :=
  (F_X11_refreshFlow N σ).bind (fun q1 => loopK (fun q nx11 => F_X11_dearest_B11 N  nx11  q.1 q.2.1 q.2.2 q1) N ((-2), (-1), 0))
set_option maxHeartbeats 4000000 in
set_option maxRecDepth 100000 in
theorem c_X11_dearest (l : Launch) (g : Geo) (N : Nat)  (σ : Sto) (res : Int × Sto)  (ok : OK σ) (hF : F_X11_dearest N  σ = some res) : MtI l g yX11_dearest cX11_dearest 6 (some .int) rm_X11_dearest [vr g 0] σ res.1 res.2 inR := by
  intro sz
  refine Met.ofAt (own := RX11) (QQ := fun z => QI g z res.1 res.2 inR) (by decide +kernel) (Nat.le_of_ble_eq_true rfl) rfl ?_
  intro p e s m args below meth c C hr hlk
  show At p l e rm_X11_dearest s m args below meth c 0 0 g 6 (MQ below (QI g s.heap.size res.1 res.2 inR) args s 0 0 (AA g s.heap.size)) 0 [(0, vr g 0)] [] σ
  unfold F_X11_dearest at hF
  refine at_aload_n (pc := 0) C 0 dX11_dearest_0 rfl rfl ?_
  obtain ⟨q1, eq1, hF⟩ := bind_some' hF
  refine at_callVv (pc := 1) (ci := 11) C (c_X11_refreshFlow l g N  σ q1  ok eq1) kv_X11_refreshFlow w945 kd0 rfl rfl rfl rfl (Nat.le_of_ble_eq_true rfl) ⟨rfl, rfl, (Nat.le_of_ble_eq_true rfl), (Nat.le_of_ble_eq_true rfl)⟩ dX11_dearest_1 (fun okq1 => ?_)
  refine at_bipush (pc := 4) C dX11_dearest_4 (by decide) ?_
  refine at_istore_n (pc := 6) (lv' := [(1, vi (-2)), (0, vr g 0)]) C dX11_dearest_6 rfl (Nat.le_of_ble_eq_true rfl) rfl ?_
  refine at_iconst (pc := 7) C dX11_dearest_7 ?_
  refine at_istore_n (pc := 8) (lv' := [(2, vi (-1)), (1, vi (-2)), (0, vr g 0)]) C dX11_dearest_8 rfl (Nat.le_of_ble_eq_true rfl) rfl ?_
  refine at_iconst (pc := 9) C dX11_dearest_9 ?_
  refine at_istore_n (pc := 10) (lv' := [(3, vi 0), (2, vi (-1)), (1, vi (-2)), (0, vr g 0)]) C dX11_dearest_10 rfl (Nat.le_of_ble_eq_true rfl) rfl ?_
  have L11 : ∀ (v1 : Int) (v2 : Int) (v3 : Int) (σ : Sto), inR v1 → inR v2 → inR v3 → OK σ → loopK (fun q nx11 => F_X11_dearest_B11 N  nx11  q.1 q.2.1 q.2.2 σ) N (v1, v2, v3) = some res → At p l e rm_X11_dearest s m args below meth c 0 0 g 6 (MQ below (QI g s.heap.size res.1 res.2 inR) args s 0 0 (AA g s.heap.size)) 11 [(0, vr g 0), (1, vi v1), (2, vi v2), (3, vi v3)] [] σ := by
    intro v1 v2 v3 σ h1 h2 h3 ok hF
    refine loopK_ind (res := res) (P := fun (q : Int × Int × Int) => inR q.1 → inR q.2.1 → inR q.2.2 → At p l e rm_X11_dearest s m args below meth c 0 0 g 6 (MQ below (QI g s.heap.size res.1 res.2 inR) args s 0 0 (AA g s.heap.size)) 11 [(0, vr g 0), (1, vi q.1), (2, vi q.2.1), (3, vi q.2.2)] [] σ) ?_ N _ hF h1 h2 h3
    intro nx11 q ih11 hF
    obtain ⟨v1, v2, v3⟩ := q
    intro h1 h2 h3
    have hF : F_X11_dearest_B11 N  nx11  v1 v2 v3 σ = some res := hF
    unfold F_X11_dearest_B11 at hF
    refine at_iload_n (pc := 11) C 3 dX11_dearest_11 rfl rfl ?_
    refine at_aload_n (pc := 12) C 0 dX11_dearest_12 rfl rfl ?_
    obtain ⟨b2, eb2, kb2, hF⟩ := asB_some hF
    refine at_getd (pc := 13) (jz := 1) (k2 := b2) C fw_11_19 kd0 rfl (Nat.le_of_ble_eq_true rfl) rfl rfl eb2 dX11_dearest_13 ?_
    refine at_geti (pc := 16) (jz := 9) C fw_11_324 kb2 rfl (Nat.le_of_ble_eq_true rfl) rfl rfl dX11_dearest_16 ?_
    refine at_icmp_ge (pc := 19) (tgt := 104) C h3 (ok b2 9) dX11_dearest_19 rfl (fun c3 => ?_) (fun c3 => ?_)
    · have hF := (if_pos c3).symm.trans hF
      refine at_iload_n (pc := 104) C 1 dX11_dearest_104 rfl rfl ?_
      obtain rfl := Option.some.inj hF
      exact at_iret (pc := 105) C hr hlk h1 ok dX11_dearest_105
    · have hF := (if_neg c3).symm.trans hF
      refine at_iconst (pc := 22) C dX11_dearest_22 ?_
      refine at_istore (pc := 23) (lv' := [(4, vi 0), (0, vr g 0), (1, vi v1), (2, vi v2), (3, vi v3)]) C dX11_dearest_23 (Nat.le_of_ble_eq_true rfl) rfl ?_
      have L25 : ∀ (v1 : Int) (v2 : Int) (v3 : Int) (v4 : Int), inR v1 → inR v2 → inR v3 → inR v4 → loopK (fun q nx25 => F_X11_dearest_B25 N nx11 nx25 v3 q.1 q.2.1 q.2.2 σ) N (v1, v2, v4) = some res → At p l e rm_X11_dearest s m args below meth c 0 0 g 6 (MQ below (QI g s.heap.size res.1 res.2 inR) args s 0 0 (AA g s.heap.size)) 25 [(0, vr g 0), (1, vi v1), (2, vi v2), (3, vi v3), (4, vi v4)] [] σ := by
        intro v1 v2 v3 v4 h1 h2 h3 h4 hF
        refine loopK_ind (res := res) (P := fun (q : Int × Int × Int) => inR q.1 → inR q.2.1 → inR q.2.2 → At p l e rm_X11_dearest s m args below meth c 0 0 g 6 (MQ below (QI g s.heap.size res.1 res.2 inR) args s 0 0 (AA g s.heap.size)) 25 [(0, vr g 0), (1, vi q.1), (2, vi q.2.1), (3, vi v3), (4, vi q.2.2)] [] σ) ?_ N _ hF h1 h2 h4
        intro nx25 q ih25 hF
        obtain ⟨v1, v2, v4⟩ := q
        intro h1 h2 h4
        have hF : F_X11_dearest_B25 N nx11 nx25 v3 v1 v2 v4 σ = some res := hF
        unfold F_X11_dearest_B25 at hF
        have J98 : ∀ (v1 : Int) (v2 : Int) (v3 : Int), inR v1 → inR v2 → inR v3 → F_X11_dearest_J98 N nx11 v1 v2 v3 σ = some res → At p l e rm_X11_dearest s m args below meth c 0 0 g 6 (MQ below (QI g s.heap.size res.1 res.2 inR) args s 0 0 (AA g s.heap.size)) 98 [(0, vr g 0), (1, vi v1), (2, vi v2), (3, vi v3)] [] σ := by
          intro v1 v2 v3 h1 h2 h3 hF
          unfold F_X11_dearest_J98 at hF
          refine at_iinc (pc := 98) (lv' := [(3, vi (ja v3 1)), (0, vr g 0), (1, vi v1), (2, vi v2)]) C 3 dX11_dearest_98 rfl (Nat.le_of_ble_eq_true rfl) rfl ?_
          refine at_goto (pc := 101) (tgt := 11) C dX11_dearest_101 rfl ?_
          refine at_sub (lv' := [(0, vr g 0), (1, vi v1), (2, vi v2), (3, vi (ja v3 1))]) [1, 2, 3, 0] rfl ?_
          exact ih11 _ hF h1 h2 (ja_R v3 1)
        refine at_iload (pc := 25) C 4 dX11_dearest_25 rfl ?_
        refine at_aload_n (pc := 27) C 0 dX11_dearest_27 rfl rfl ?_
        obtain ⟨b4, eb4, kb4, hF⟩ := asB_some hF
        refine at_getd (pc := 28) (jz := 1) (k2 := b4) C fw_11_19 kd0 rfl (Nat.le_of_ble_eq_true rfl) rfl rfl eb4 dX11_dearest_28 ?_
        refine at_geti (pc := 31) (jz := 9) C fw_11_324 kb4 rfl (Nat.le_of_ble_eq_true rfl) rfl rfl dX11_dearest_31 ?_
        refine at_icmp_ge (pc := 34) (tgt := 98) C h4 (ok b4 9) dX11_dearest_34 rfl (fun c5 => ?_) (fun c5 => ?_)
        · have hF := (if_pos c5).symm.trans hF
          refine at_sub (lv' := [(0, vr g 0), (1, vi v1), (2, vi v2), (3, vi v3)]) [0, 1, 2, 3] rfl ?_
          exact J98 v1 v2 v3 h1 h2 h3 hF
        · have hF := (if_neg c5).symm.trans hF
          have J92 : ∀ (v1 : Int) (v2 : Int) (v4 : Int), inR v1 → inR v2 → inR v4 → F_X11_dearest_J92 N nx11 nx25 v1 v2 v3 v4 σ = some res → At p l e rm_X11_dearest s m args below meth c 0 0 g 6 (MQ below (QI g s.heap.size res.1 res.2 inR) args s 0 0 (AA g s.heap.size)) 92 [(0, vr g 0), (1, vi v1), (2, vi v2), (3, vi v3), (4, vi v4)] [] σ := by
            intro v1 v2 v4 h1 h2 h4 hF
            unfold F_X11_dearest_J92 at hF
            refine at_iinc (pc := 92) (lv' := [(4, vi (ja v4 1)), (0, vr g 0), (1, vi v1), (2, vi v2), (3, vi v3)]) C 4 dX11_dearest_92 rfl (Nat.le_of_ble_eq_true rfl) rfl ?_
            refine at_goto (pc := 95) (tgt := 25) C dX11_dearest_95 rfl ?_
            refine at_sub (lv' := [(0, vr g 0), (1, vi v1), (2, vi v2), (3, vi v3), (4, vi (ja v4 1))]) [1, 2, 3, 4, 0] rfl ?_
            exact ih25 _ hF h1 h2 (ja_R v4 1)
          refine at_iload_n (pc := 37) C 3 dX11_dearest_37 rfl rfl ?_
          refine at_bipush (pc := 38) C dX11_dearest_38 (by decide) ?_
          refine at_imul (pc := 40) C dX11_dearest_40 ?_
          refine at_iload (pc := 41) C 4 dX11_dearest_41 rfl ?_
          refine at_iadd (pc := 43) C dX11_dearest_43 ?_
          refine at_istore (pc := 44) (lv' := [(5, vi (ja (jm v3 12) v4)), (0, vr g 0), (1, vi v1), (2, vi v2), (3, vi v3), (4, vi v4)]) C dX11_dearest_44 (Nat.le_of_ble_eq_true rfl) rfl ?_
          refine at_aload_n (pc := 46) C 1 dX11_dearest_46 rfl rfl ?_
          refine at_getr (pc := 47) (k' := 58) C 58 fw_11_71 kd0 rfl (Nat.le_of_ble_eq_true rfl) rfl rfl dX11_dearest_47 ?_
          refine at_getr (pc := 50) (k' := 63) C 5 fw_11_327 kd58 rfl (Nat.le_of_ble_eq_true rfl) rfl rfl dX11_dearest_50 ?_
          refine at_iload (pc := 53) C 0 dX11_dearest_53 rfl ?_
          obtain ⟨b6, hF⟩ := inb_some hF
          refine at_iaload (pc := 55) C kd63 b6 dX11_dearest_55 ?_
          refine at_if_le (pc := 56) (tgt := 92) C (ok 63 (ja (jm v3 12) v4)) dX11_dearest_56 rfl (fun c7 => ?_) (fun c7 => ?_)
          · have hF := (if_pos c7).symm.trans hF
            refine at_sub (lv' := [(0, vr g 0), (1, vi v1), (2, vi v2), (3, vi v3), (4, vi v4)]) [1, 2, 3, 4, 5] rfl ?_
            exact J92 v1 v2 v4 h1 h2 h4 hF
          · have hF := (if_neg c7).symm.trans hF
            refine at_aload_n (pc := 59) C 1 dX11_dearest_59 rfl rfl ?_
            refine at_getr (pc := 60) (k' := 55) C 55 fw_11_64 kd0 rfl (Nat.le_of_ble_eq_true rfl) rfl rfl dX11_dearest_60 ?_
            refine at_getr (pc := 63) (k' := 57) C 2 fw_11_297 kd55 rfl (Nat.le_of_ble_eq_true rfl) rfl rfl dX11_dearest_63 ?_
            refine at_iload (pc := 66) C 0 dX11_dearest_66 rfl ?_
            refine at_iaload (pc := 68) C kd57 b6 dX11_dearest_68 ?_
            refine at_iload_n (pc := 69) C 3 dX11_dearest_69 rfl rfl ?_
            refine at_icmp_le (pc := 70) (tgt := 92) C (ok 57 (ja (jm v3 12) v4)) h2 dX11_dearest_70 rfl (fun c8 => ?_) (fun c8 => ?_)
            · have hF := (if_pos c8).symm.trans hF
              refine at_sub (lv' := [(0, vr g 0), (1, vi v1), (2, vi v2), (3, vi v3), (4, vi v4)]) [1, 2, 3, 4, 5] rfl ?_
              exact J92 v1 v2 v4 h1 h2 h4 hF
            · have hF := (if_neg c8).symm.trans hF
              refine at_aload_n (pc := 73) C 1 dX11_dearest_73 rfl rfl ?_
              refine at_getr (pc := 74) (k' := 55) C 55 fw_11_64 kd0 rfl (Nat.le_of_ble_eq_true rfl) rfl rfl dX11_dearest_74 ?_
              refine at_getr (pc := 77) (k' := 57) C 2 fw_11_297 kd55 rfl (Nat.le_of_ble_eq_true rfl) rfl rfl dX11_dearest_77 ?_
              refine at_iload (pc := 80) C 0 dX11_dearest_80 rfl ?_
              refine at_iaload (pc := 82) C kd57 b6 dX11_dearest_82 ?_
              refine at_istore_n (pc := 83) (lv' := [(2, vi (σ.1 57 (ja (jm v3 12) v4))), (5, vi (ja (jm v3 12) v4)), (0, vr g 0), (1, vi v1), (3, vi v3), (4, vi v4)]) C dX11_dearest_83 rfl (Nat.le_of_ble_eq_true rfl) rfl ?_
              refine at_bipush (pc := 84) C dX11_dearest_84 (by decide) ?_
              refine at_iload_n (pc := 86) C 4 dX11_dearest_86 rfl rfl ?_
              refine at_imul (pc := 87) C dX11_dearest_87 ?_
              refine at_iload (pc := 88) C 5 dX11_dearest_88 rfl ?_
              refine at_iadd (pc := 90) C dX11_dearest_90 ?_
              refine at_istore_n (pc := 91) (lv' := [(1, vi (ja (jm 16 v3) v4)), (2, vi (σ.1 57 (ja (jm v3 12) v4))), (5, vi (ja (jm v3 12) v4)), (0, vr g 0), (3, vi v3), (4, vi v4)]) C dX11_dearest_91 rfl (Nat.le_of_ble_eq_true rfl) rfl ?_
              refine at_sub (lv' := [(0, vr g 0), (1, vi (ja (jm 16 v3) v4)), (2, vi (σ.1 57 (ja (jm v3 12) v4))), (3, vi v3), (4, vi v4)]) [3, 0, 1, 4, 5] rfl ?_
              exact J92 (ja (jm 16 v3) v4) (σ.1 57 (ja (jm v3 12) v4)) v4 (ja_R (jm 16 v3) v4) (ok 57 (ja (jm v3 12) v4)) h4 hF
      refine at_sub (lv' := [(0, vr g 0), (1, vi v1), (2, vi v2), (3, vi v3), (4, vi 0)]) [1, 2, 3, 4, 0] rfl ?_
      exact L25 v1 v2 v3 0 h1 h2 h3 (isB.r (Or.inl rfl)) hF
  refine at_sub (lv' := [(0, vr g 0), (1, vi (-2)), (2, vi (-1)), (3, vi 0)]) [3, 2, 1, 0] rfl ?_
  exact L11 (-2) (-1) 0 q1 (show inR (-2) from ⟨by decide, by decide⟩) (show inR (-1) from ⟨by decide, by decide⟩) (isB.r (Or.inl rfl)) okq1 hF
abbrev rm_X11_claimsOn : Room := { frames := 1, cells := 0, slots := 0, locals := 22 }
def F_X11_claimsOn_J56 (N : Nat) (nx4 : (Int × Int) → Option (Int)) (v1 : Int) (v2 : Int) (v3 : Int) (σ : Sto) : Option (Int) :=
  nx4 (v2, (ja v3 1))
def F_X11_claimsOn_B4 (N : Nat) (nx4 : (Int × Int) → Option (Int)) (v1 : Int) (v2 : Int) (v3 : Int) (σ : Sto) : Option (Int) :=
  if (σ.1 29 3) ≤ v3 then (some v2) else (asB (σ.1 0 1) (fun b2 => inb v3 30 ((F_X0_isOneMembers N b2 (σ.1 30 v3) (σ.1 31 v3) σ).bind (fun q4 => if q4 = v1 then (F_X11_claimsOn_J56 N nx4 v1 (ja v2 (σ.1 32 v3)) v3 σ) else (F_X11_claimsOn_J56 N nx4 v1 v2 v3 σ)))))
def F_X11_claimsOn (N : Nat) (v1 : Int) (σ : Sto) : Option (Int) :=
  loopK (fun q nx4 => F_X11_claimsOn_B4 N  nx4 v1 q.1 q.2 σ) N (0, 0)
set_option maxHeartbeats 4000000 in
set_option maxRecDepth 100000 in
theorem c_X11_claimsOn (l : Launch) (g : Geo) (N : Nat) (v1 : Int) (σ : Sto) (res : Int) (h1 : isB v1) (ok : OK σ) (hF : F_X11_claimsOn N v1 σ = some res) : MtI l g yX11_claimsOn cX11_claimsOn 4 (some .int) rm_X11_claimsOn [vr g 0, vi v1] σ res σ inR := by
  intro sz
  refine Met.ofAt (own := RX11) (QQ := fun z => QI g z res σ inR) (by decide +kernel) (Nat.le_of_ble_eq_true rfl) rfl ?_
  intro p e s m args below meth c C hr hlk
  show At p l e rm_X11_claimsOn s m args below meth c 0 0 g 4 (MQ below (QI g s.heap.size res σ inR) args s 0 0 (AA g s.heap.size)) 0 [(0, vr g 0), (1, vi v1)] [] σ
  unfold F_X11_claimsOn at hF
  refine at_iconst (pc := 0) C dX11_claimsOn_0 ?_
  refine at_istore_n (pc := 1) (lv' := [(2, vi 0), (0, vr g 0), (1, vi v1)]) C dX11_claimsOn_1 rfl (Nat.le_of_ble_eq_true rfl) rfl ?_
  refine at_iconst (pc := 2) C dX11_claimsOn_2 ?_
  refine at_istore_n (pc := 3) (lv' := [(3, vi 0), (2, vi 0), (0, vr g 0), (1, vi v1)]) C dX11_claimsOn_3 rfl (Nat.le_of_ble_eq_true rfl) rfl ?_
  have L4 : ∀ (v1 : Int) (v2 : Int) (v3 : Int), isB v1 → inR v2 → inR v3 → loopK (fun q nx4 => F_X11_claimsOn_B4 N  nx4 v1 q.1 q.2 σ) N (v2, v3) = some res → At p l e rm_X11_claimsOn s m args below meth c 0 0 g 4 (MQ below (QI g s.heap.size res σ inR) args s 0 0 (AA g s.heap.size)) 4 [(0, vr g 0), (1, vi v1), (2, vi v2), (3, vi v3)] [] σ := by
    intro v1 v2 v3 h1 h2 h3 hF
    refine loopK_ind (res := res) (P := fun (q : Int × Int) => inR q.1 → inR q.2 → At p l e rm_X11_claimsOn s m args below meth c 0 0 g 4 (MQ below (QI g s.heap.size res σ inR) args s 0 0 (AA g s.heap.size)) 4 [(0, vr g 0), (1, vi v1), (2, vi q.1), (3, vi q.2)] [] σ) ?_ N _ hF h2 h3
    intro nx4 q ih4 hF
    obtain ⟨v2, v3⟩ := q
    intro h2 h3
    have hF : F_X11_claimsOn_B4 N  nx4 v1 v2 v3 σ = some res := hF
    unfold F_X11_claimsOn_B4 at hF
    refine at_iload_n (pc := 4) C 3 dX11_claimsOn_4 rfl rfl ?_
    refine at_aload_n (pc := 5) C 0 dX11_claimsOn_5 rfl rfl ?_
    refine at_getr (pc := 6) (k' := 29) C 29 fw_11_29 kd0 rfl (Nat.le_of_ble_eq_true rfl) rfl rfl dX11_claimsOn_6 ?_
    refine at_geti (pc := 9) (jz := 3) C fw_11_273 kd29 rfl (Nat.le_of_ble_eq_true rfl) rfl rfl dX11_claimsOn_9 ?_
    refine at_icmp_ge (pc := 12) (tgt := 62) C h3 (ok 29 3) dX11_claimsOn_12 rfl (fun c1 => ?_) (fun c1 => ?_)
    · have hF := (if_pos c1).symm.trans hF
      refine at_iload_n (pc := 62) C 2 dX11_claimsOn_62 rfl rfl ?_
      obtain rfl := Option.some.inj hF
      exact at_iret (pc := 63) C hr hlk h2 ok dX11_claimsOn_63
    · have hF := (if_neg c1).symm.trans hF
      have J56 : ∀ (v2 : Int) (v3 : Int), inR v2 → inR v3 → F_X11_claimsOn_J56 N nx4 v1 v2 v3 σ = some res → At p l e rm_X11_claimsOn s m args below meth c 0 0 g 4 (MQ below (QI g s.heap.size res σ inR) args s 0 0 (AA g s.heap.size)) 56 [(0, vr g 0), (1, vi v1), (2, vi v2), (3, vi v3)] [] σ := by
        intro v2 v3 h2 h3 hF
        unfold F_X11_claimsOn_J56 at hF
        refine at_iinc (pc := 56) (lv' := [(3, vi (ja v3 1)), (0, vr g 0), (1, vi v1), (2, vi v2)]) C 3 dX11_claimsOn_56 rfl (Nat.le_of_ble_eq_true rfl) rfl ?_
        refine at_goto (pc := 59) (tgt := 4) C dX11_claimsOn_59 rfl ?_
        refine at_sub (lv' := [(0, vr g 0), (1, vi v1), (2, vi v2), (3, vi (ja v3 1))]) [1, 2, 3, 0] rfl ?_
        exact ih4 _ hF h2 (ja_R v3 1)
      refine at_aload_n (pc := 15) C 0 dX11_claimsOn_15 rfl rfl ?_
      obtain ⟨b2, eb2, kb2, hF⟩ := asB_some hF
      refine at_getd (pc := 16) (jz := 1) (k2 := b2) C fw_11_19 kd0 rfl (Nat.le_of_ble_eq_true rfl) rfl rfl eb2 dX11_claimsOn_16 ?_
      refine at_aload_n (pc := 19) C 0 dX11_claimsOn_19 rfl rfl ?_
      refine at_getr (pc := 20) (k' := 29) C 29 fw_11_29 kd0 rfl (Nat.le_of_ble_eq_true rfl) rfl rfl dX11_claimsOn_20 ?_
      refine at_getr (pc := 23) (k' := 30) C 1 fw_11_274 kd29 rfl (Nat.le_of_ble_eq_true rfl) rfl rfl dX11_claimsOn_23 ?_
      refine at_iload_n (pc := 26) C 3 dX11_claimsOn_26 rfl rfl ?_
      obtain ⟨b3, hF⟩ := inb_some hF
      refine at_iaload (pc := 27) C kd30 b3 dX11_claimsOn_27 ?_
      refine at_aload_n (pc := 28) C 0 dX11_claimsOn_28 rfl rfl ?_
      refine at_getr (pc := 29) (k' := 29) C 29 fw_11_29 kd0 rfl (Nat.le_of_ble_eq_true rfl) rfl rfl dX11_claimsOn_29 ?_
      refine at_getr (pc := 32) (k' := 31) C 2 fw_11_277 kd29 rfl (Nat.le_of_ble_eq_true rfl) rfl rfl dX11_claimsOn_32 ?_
      refine at_iload_n (pc := 35) C 3 dX11_claimsOn_35 rfl rfl ?_
      refine at_iaload (pc := 36) C kd31 b3 dX11_claimsOn_36 ?_
      obtain ⟨q4, eq4, hF⟩ := bind_some' hF
      refine at_callV (pc := 37) (ci := 0) C (c_X0_isOneMembers l g N b2 (σ.1 30 v3) (σ.1 31 v3) σ q4 kb2 (ok 30 v3) (ok 31 v3) ok eq4) kv_X0_isOneMembers w1057 kb2 rfl rfl rfl rfl (Nat.le_of_ble_eq_true rfl) ⟨rfl, rfl, (Nat.le_of_ble_eq_true rfl), (Nat.le_of_ble_eq_true rfl)⟩ dX11_claimsOn_37 (fun tq4 okq4 => ?_)
      refine at_iload_n (pc := 40) C 1 dX11_claimsOn_40 rfl rfl ?_
      refine at_icmp_ne (pc := 41) (tgt := 56) C (isB.r tq4) (isB.r h1) dX11_claimsOn_41 rfl (fun c5 => ?_) (fun c5 => ?_)
      · have hF := (if_neg c5).symm.trans hF
        exact J56 v2 v3 h2 h3 hF
      · have hF := (if_pos c5).symm.trans hF
        refine at_iload_n (pc := 44) C 2 dX11_claimsOn_44 rfl rfl ?_
        refine at_aload_n (pc := 45) C 0 dX11_claimsOn_45 rfl rfl ?_
        refine at_getr (pc := 46) (k' := 29) C 29 fw_11_29 kd0 rfl (Nat.le_of_ble_eq_true rfl) rfl rfl dX11_claimsOn_46 ?_
        refine at_getr (pc := 49) (k' := 32) C 3 fw_11_311 kd29 rfl (Nat.le_of_ble_eq_true rfl) rfl rfl dX11_claimsOn_49 ?_
        refine at_iload_n (pc := 52) C 3 dX11_claimsOn_52 rfl rfl ?_
        refine at_iaload (pc := 53) C kd32 b3 dX11_claimsOn_53 ?_
        refine at_iadd (pc := 54) C dX11_claimsOn_54 ?_
        refine at_istore_n (pc := 55) (lv' := [(2, vi (ja v2 (σ.1 32 v3))), (0, vr g 0), (1, vi v1), (3, vi v3)]) C dX11_claimsOn_55 rfl (Nat.le_of_ble_eq_true rfl) rfl ?_
        refine at_sub (lv' := [(0, vr g 0), (1, vi v1), (2, vi (ja v2 (σ.1 32 v3))), (3, vi v3)]) [1, 2, 0, 3] rfl ?_
        exact J56 (ja v2 (σ.1 32 v3)) v3 (ja_R v2 (σ.1 32 v3)) h3 hF
  refine at_sub (lv' := [(0, vr g 0), (1, vi v1), (2, vi 0), (3, vi 0)]) [2, 3, 1, 0] rfl ?_
  exact L4 v1 0 0 h1 (isB.r (Or.inl rfl)) (isB.r (Or.inl rfl)) hF
abbrev rm_X11_reliefOn : Room := { frames := 1, cells := 0, slots := 0, locals := 22 }
def F_X11_reliefOn_J68 (N : Nat) (nx4 : (Int × Int) → Option (Int)) (v1 : Int) (v2 : Int) (v3 : Int) (σ : Sto) : Option (Int) :=
  nx4 (v2, (ja v3 1))
def F_X11_reliefOn_J62 (N : Nat) (nx4 : (Int × Int) → Option (Int)) (nx18 : (Int × Int) → Option (Int)) (v1 : Int) (v2 : Int) (v3 : Int) (v4 : Int) (σ : Sto) : Option (Int) :=
  nx18 (v2, (ja v4 1))
def F_X11_reliefOn_B18 (N : Nat) (nx4 : (Int × Int) → Option (Int)) (nx18 : (Int × Int) → Option (Int)) (v1 : Int) (v3 : Int) (v2 : Int) (v4 : Int) (σ : Sto) : Option (Int) :=
  asB (σ.1 0 1) (fun b3 => if (σ.1 b3 9) ≤ v4 then (F_X11_reliefOn_J68 N nx4 v1 v2 v3 σ) else (asB (σ.1 0 1) (fun b5 => (F_X0_isOneMembers N b5 v3 v4 σ).bind (fun q6 => if q6 = v1 then (inb (ja (jm v3 12) v4) 144 (F_X11_reliefOn_J62 N nx4 nx18 v1 (ja v2 (σ.1 63 (ja (jm v3 12) v4))) v3 v4 σ)) else (F_X11_reliefOn_J62 N nx4 nx18 v1 v2 v3 v4 σ)))))
def F_X11_reliefOn_B4 (N : Nat) (nx4 : (Int × Int) → Option (Int)) (v1 : Int) (v2 : Int) (v3 : Int) (σ : Sto) : Option (Int) :=
  asB (σ.1 0 1) (fun b1 => if (σ.1 b1 9) ≤ v3 then (some v2) else (loopK (fun q nx18 => F_X11_reliefOn_B18 N nx4 nx18 v1 v3 q.1 q.2 σ) N (v2, 0)))
def F_X11_reliefOn (N : Nat) (v1 : Int) (σ : Sto) : Option (Int) :=
  loopK (fun q nx4 => F_X11_reliefOn_B4 N  nx4 v1 q.1 q.2 σ) N (0, 0)
set_option maxHeartbeats 4000000 in
set_option maxRecDepth 100000 in
theorem c_X11_reliefOn (l : Launch) (g : Geo) (N : Nat) (v1 : Int) (σ : Sto) (res : Int) (h1 : isB v1) (ok : OK σ) (hF : F_X11_reliefOn N v1 σ = some res) : MtI l g yX11_reliefOn cX11_reliefOn 5 (some .int) rm_X11_reliefOn [vr g 0, vi v1] σ res σ inR := by
  intro sz
  refine Met.ofAt (own := RX11) (QQ := fun z => QI g z res σ inR) (by decide +kernel) (Nat.le_of_ble_eq_true rfl) rfl ?_
  intro p e s m args below meth c C hr hlk
  show At p l e rm_X11_reliefOn s m args below meth c 0 0 g 5 (MQ below (QI g s.heap.size res σ inR) args s 0 0 (AA g s.heap.size)) 0 [(0, vr g 0), (1, vi v1)] [] σ
  unfold F_X11_reliefOn at hF
  refine at_iconst (pc := 0) C dX11_reliefOn_0 ?_
  refine at_istore_n (pc := 1) (lv' := [(2, vi 0), (0, vr g 0), (1, vi v1)]) C dX11_reliefOn_1 rfl (Nat.le_of_ble_eq_true rfl) rfl ?_
  refine at_iconst (pc := 2) C dX11_reliefOn_2 ?_
  refine at_istore_n (pc := 3) (lv' := [(3, vi 0), (2, vi 0), (0, vr g 0), (1, vi v1)]) C dX11_reliefOn_3 rfl (Nat.le_of_ble_eq_true rfl) rfl ?_
  have L4 : ∀ (v1 : Int) (v2 : Int) (v3 : Int), isB v1 → inR v2 → inR v3 → loopK (fun q nx4 => F_X11_reliefOn_B4 N  nx4 v1 q.1 q.2 σ) N (v2, v3) = some res → At p l e rm_X11_reliefOn s m args below meth c 0 0 g 5 (MQ below (QI g s.heap.size res σ inR) args s 0 0 (AA g s.heap.size)) 4 [(0, vr g 0), (1, vi v1), (2, vi v2), (3, vi v3)] [] σ := by
    intro v1 v2 v3 h1 h2 h3 hF
    refine loopK_ind (res := res) (P := fun (q : Int × Int) => inR q.1 → inR q.2 → At p l e rm_X11_reliefOn s m args below meth c 0 0 g 5 (MQ below (QI g s.heap.size res σ inR) args s 0 0 (AA g s.heap.size)) 4 [(0, vr g 0), (1, vi v1), (2, vi q.1), (3, vi q.2)] [] σ) ?_ N _ hF h2 h3
    intro nx4 q ih4 hF
    obtain ⟨v2, v3⟩ := q
    intro h2 h3
    have hF : F_X11_reliefOn_B4 N  nx4 v1 v2 v3 σ = some res := hF
    unfold F_X11_reliefOn_B4 at hF
    refine at_iload_n (pc := 4) C 3 dX11_reliefOn_4 rfl rfl ?_
    refine at_aload_n (pc := 5) C 0 dX11_reliefOn_5 rfl rfl ?_
    obtain ⟨b1, eb1, kb1, hF⟩ := asB_some hF
    refine at_getd (pc := 6) (jz := 1) (k2 := b1) C fw_11_19 kd0 rfl (Nat.le_of_ble_eq_true rfl) rfl rfl eb1 dX11_reliefOn_6 ?_
    refine at_geti (pc := 9) (jz := 9) C fw_11_324 kb1 rfl (Nat.le_of_ble_eq_true rfl) rfl rfl dX11_reliefOn_9 ?_
    refine at_icmp_ge (pc := 12) (tgt := 74) C h3 (ok b1 9) dX11_reliefOn_12 rfl (fun c2 => ?_) (fun c2 => ?_)
    · have hF := (if_pos c2).symm.trans hF
      refine at_iload_n (pc := 74) C 2 dX11_reliefOn_74 rfl rfl ?_
      obtain rfl := Option.some.inj hF
      exact at_iret (pc := 75) C hr hlk h2 ok dX11_reliefOn_75
    · have hF := (if_neg c2).symm.trans hF
      refine at_iconst (pc := 15) C dX11_reliefOn_15 ?_
      refine at_istore (pc := 16) (lv' := [(4, vi 0), (0, vr g 0), (1, vi v1), (2, vi v2), (3, vi v3)]) C dX11_reliefOn_16 (Nat.le_of_ble_eq_true rfl) rfl ?_
      have L18 : ∀ (v2 : Int) (v3 : Int) (v4 : Int), inR v2 → inR v3 → inR v4 → loopK (fun q nx18 => F_X11_reliefOn_B18 N nx4 nx18 v1 v3 q.1 q.2 σ) N (v2, v4) = some res → At p l e rm_X11_reliefOn s m args below meth c 0 0 g 5 (MQ below (QI g s.heap.size res σ inR) args s 0 0 (AA g s.heap.size)) 18 [(0, vr g 0), (1, vi v1), (2, vi v2), (3, vi v3), (4, vi v4)] [] σ := by
        intro v2 v3 v4 h2 h3 h4 hF
        refine loopK_ind (res := res) (P := fun (q : Int × Int) => inR q.1 → inR q.2 → At p l e rm_X11_reliefOn s m args below meth c 0 0 g 5 (MQ below (QI g s.heap.size res σ inR) args s 0 0 (AA g s.heap.size)) 18 [(0, vr g 0), (1, vi v1), (2, vi q.1), (3, vi v3), (4, vi q.2)] [] σ) ?_ N _ hF h2 h4
        intro nx18 q ih18 hF
        obtain ⟨v2, v4⟩ := q
        intro h2 h4
        have hF : F_X11_reliefOn_B18 N nx4 nx18 v1 v3 v2 v4 σ = some res := hF
        unfold F_X11_reliefOn_B18 at hF
        have J68 : ∀ (v2 : Int) (v3 : Int), inR v2 → inR v3 → F_X11_reliefOn_J68 N nx4 v1 v2 v3 σ = some res → At p l e rm_X11_reliefOn s m args below meth c 0 0 g 5 (MQ below (QI g s.heap.size res σ inR) args s 0 0 (AA g s.heap.size)) 68 [(0, vr g 0), (1, vi v1), (2, vi v2), (3, vi v3)] [] σ := by
          intro v2 v3 h2 h3 hF
          unfold F_X11_reliefOn_J68 at hF
          refine at_iinc (pc := 68) (lv' := [(3, vi (ja v3 1)), (0, vr g 0), (1, vi v1), (2, vi v2)]) C 3 dX11_reliefOn_68 rfl (Nat.le_of_ble_eq_true rfl) rfl ?_
          refine at_goto (pc := 71) (tgt := 4) C dX11_reliefOn_71 rfl ?_
          refine at_sub (lv' := [(0, vr g 0), (1, vi v1), (2, vi v2), (3, vi (ja v3 1))]) [1, 2, 3, 0] rfl ?_
          exact ih4 _ hF h2 (ja_R v3 1)
        refine at_iload (pc := 18) C 4 dX11_reliefOn_18 rfl ?_
        refine at_aload_n (pc := 20) C 0 dX11_reliefOn_20 rfl rfl ?_
        obtain ⟨b3, eb3, kb3, hF⟩ := asB_some hF
        refine at_getd (pc := 21) (jz := 1) (k2 := b3) C fw_11_19 kd0 rfl (Nat.le_of_ble_eq_true rfl) rfl rfl eb3 dX11_reliefOn_21 ?_
        refine at_geti (pc := 24) (jz := 9) C fw_11_324 kb3 rfl (Nat.le_of_ble_eq_true rfl) rfl rfl dX11_reliefOn_24 ?_
        refine at_icmp_ge (pc := 27) (tgt := 68) C h4 (ok b3 9) dX11_reliefOn_27 rfl (fun c4 => ?_) (fun c4 => ?_)
        · have hF := (if_pos c4).symm.trans hF
          refine at_sub (lv' := [(0, vr g 0), (1, vi v1), (2, vi v2), (3, vi v3)]) [0, 1, 2, 3] rfl ?_
          exact J68 v2 v3 h2 h3 hF
        · have hF := (if_neg c4).symm.trans hF
          have J62 : ∀ (v2 : Int) (v4 : Int), inR v2 → inR v4 → F_X11_reliefOn_J62 N nx4 nx18 v1 v2 v3 v4 σ = some res → At p l e rm_X11_reliefOn s m args below meth c 0 0 g 5 (MQ below (QI g s.heap.size res σ inR) args s 0 0 (AA g s.heap.size)) 62 [(0, vr g 0), (1, vi v1), (2, vi v2), (3, vi v3), (4, vi v4)] [] σ := by
            intro v2 v4 h2 h4 hF
            unfold F_X11_reliefOn_J62 at hF
            refine at_iinc (pc := 62) (lv' := [(4, vi (ja v4 1)), (0, vr g 0), (1, vi v1), (2, vi v2), (3, vi v3)]) C 4 dX11_reliefOn_62 rfl (Nat.le_of_ble_eq_true rfl) rfl ?_
            refine at_goto (pc := 65) (tgt := 18) C dX11_reliefOn_65 rfl ?_
            refine at_sub (lv' := [(0, vr g 0), (1, vi v1), (2, vi v2), (3, vi v3), (4, vi (ja v4 1))]) [1, 2, 3, 4, 0] rfl ?_
            exact ih18 _ hF h2 (ja_R v4 1)
          refine at_aload_n (pc := 30) C 0 dX11_reliefOn_30 rfl rfl ?_
          obtain ⟨b5, eb5, kb5, hF⟩ := asB_some hF
          refine at_getd (pc := 31) (jz := 1) (k2 := b5) C fw_11_19 kd0 rfl (Nat.le_of_ble_eq_true rfl) rfl rfl eb5 dX11_reliefOn_31 ?_
          refine at_iload_n (pc := 34) C 3 dX11_reliefOn_34 rfl rfl ?_
          refine at_iload (pc := 35) C 4 dX11_reliefOn_35 rfl ?_
          obtain ⟨q6, eq6, hF⟩ := bind_some' hF
          refine at_callV (pc := 37) (ci := 0) C (c_X0_isOneMembers l g N b5 v3 v4 σ q6 kb5 h3 h4 ok eq6) kv_X0_isOneMembers w1057 kb5 rfl rfl rfl rfl (Nat.le_of_ble_eq_true rfl) ⟨rfl, rfl, (Nat.le_of_ble_eq_true rfl), (Nat.le_of_ble_eq_true rfl)⟩ dX11_reliefOn_37 (fun tq6 okq6 => ?_)
          refine at_iload_n (pc := 40) C 1 dX11_reliefOn_40 rfl rfl ?_
          refine at_icmp_ne (pc := 41) (tgt := 62) C (isB.r tq6) (isB.r h1) dX11_reliefOn_41 rfl (fun c7 => ?_) (fun c7 => ?_)
          · have hF := (if_neg c7).symm.trans hF
            exact J62 v2 v4 h2 h4 hF
          · have hF := (if_pos c7).symm.trans hF
            refine at_iload_n (pc := 44) C 2 dX11_reliefOn_44 rfl rfl ?_
            refine at_aload_n (pc := 45) C 0 dX11_reliefOn_45 rfl rfl ?_
            refine at_getr (pc := 46) (k' := 58) C 58 fw_11_71 kd0 rfl (Nat.le_of_ble_eq_true rfl) rfl rfl dX11_reliefOn_46 ?_
            refine at_getr (pc := 49) (k' := 63) C 5 fw_11_327 kd58 rfl (Nat.le_of_ble_eq_true rfl) rfl rfl dX11_reliefOn_49 ?_
            refine at_iload_n (pc := 52) C 3 dX11_reliefOn_52 rfl rfl ?_
            refine at_bipush (pc := 53) C dX11_reliefOn_53 (by decide) ?_
            refine at_imul (pc := 55) C dX11_reliefOn_55 ?_
            refine at_iload (pc := 56) C 4 dX11_reliefOn_56 rfl ?_
            refine at_iadd (pc := 58) C dX11_reliefOn_58 ?_
            obtain ⟨b8, hF⟩ := inb_some hF
            refine at_iaload (pc := 59) C kd63 b8 dX11_reliefOn_59 ?_
            refine at_iadd (pc := 60) C dX11_reliefOn_60 ?_
            refine at_istore_n (pc := 61) (lv' := [(2, vi (ja v2 (σ.1 63 (ja (jm v3 12) v4)))), (0, vr g 0), (1, vi v1), (3, vi v3), (4, vi v4)]) C dX11_reliefOn_61 rfl (Nat.le_of_ble_eq_true rfl) rfl ?_
            refine at_sub (lv' := [(0, vr g 0), (1, vi v1), (2, vi (ja v2 (σ.1 63 (ja (jm v3 12) v4)))), (3, vi v3), (4, vi v4)]) [1, 2, 0, 3, 4] rfl ?_
            exact J62 (ja v2 (σ.1 63 (ja (jm v3 12) v4))) v4 (ja_R v2 (σ.1 63 (ja (jm v3 12) v4))) h4 hF
      refine at_sub (lv' := [(0, vr g 0), (1, vi v1), (2, vi v2), (3, vi v3), (4, vi 0)]) [1, 2, 3, 4, 0] rfl ?_
      exact L18 v2 v3 0 h2 h3 (isB.r (Or.inl rfl)) hF
  refine at_sub (lv' := [(0, vr g 0), (1, vi v1), (2, vi 0), (3, vi 0)]) [2, 3, 1, 0] rfl ?_
  exact L4 v1 0 0 h1 (isB.r (Or.inl rfl)) (isB.r (Or.inl rfl)) hF
abbrev rm_X11_carried : Room := { frames := 6, cells := 0, slots := 0, locals := 150 }
def F_X11_carried_J22 (N : Nat)  (v1 : Int) (t0 : Int) (σ : Sto) : Option (Int × Sto) :=
  if v1 < 2 then ((F_X11_refreshFlow N σ).bind (fun q4 => (F_X11_reliefOn N t0 q4).bind (fun q5 => some (q5, q4)))) else ((F_X11_claimsOn N t0 σ).bind (fun q6 => some (q6, σ)))
def F_X11_carried (N : Nat) (v1 : Int) (σ : Sto) : Option (Int × Sto) :=
  if v1 < 0 then (some ((-1), σ)) else (if v1 ≤ 3 then (if (jand v1 1) = 0 then (F_X11_carried_J22 N  v1 1 σ) else (F_X11_carried_J22 N  v1 0 σ)) else (some ((-1), σ)))
set_option maxHeartbeats 4000000 in
set_option maxRecDepth 100000 in
theorem c_X11_carried (l : Launch) (g : Geo) (N : Nat) (v1 : Int) (σ : Sto) (res : Int × Sto) (h1 : inR v1) (ok : OK σ) (hF : F_X11_carried N v1 σ = some res) : MtI l g yX11_carried cX11_carried 3 (some .int) rm_X11_carried [vr g 0, vi v1] σ res.1 res.2 inR := by
  intro sz
  refine Met.ofAt (own := RX11) (QQ := fun z => QI g z res.1 res.2 inR) (by decide +kernel) (Nat.le_of_ble_eq_true rfl) rfl ?_
  intro p e s m args below meth c C hr hlk
  show At p l e rm_X11_carried s m args below meth c 0 0 g 3 (MQ below (QI g s.heap.size res.1 res.2 inR) args s 0 0 (AA g s.heap.size)) 0 [(0, vr g 0), (1, vi v1)] [] σ
  unfold F_X11_carried at hF
  refine at_iload_n (pc := 0) C 1 dX11_carried_0 rfl rfl ?_
  refine at_if_lt (pc := 1) (tgt := 9) C h1 dX11_carried_1 rfl (fun c1 => ?_) (fun c1 => ?_)
  · have hF := (if_pos c1).symm.trans hF
    refine at_iconst (pc := 9) C dX11_carried_9 ?_
    obtain rfl := Option.some.inj hF
    exact at_iret (pc := 10) C hr hlk (show inR (-1) from ⟨by decide, by decide⟩) ok dX11_carried_10
  · have hF := (if_neg c1).symm.trans hF
    refine at_iload_n (pc := 4) C 1 dX11_carried_4 rfl rfl ?_
    refine at_iconst (pc := 5) C dX11_carried_5 ?_
    refine at_icmp_le (pc := 6) (tgt := 11) C h1 (show inR 3 from ⟨by decide, by decide⟩) dX11_carried_6 rfl (fun c2 => ?_) (fun c2 => ?_)
    · have hF := (if_pos c2).symm.trans hF
      have J22 : ∀ (v1 : Int) (t0 : Int) (σ : Sto), inR v1 → isB t0 → OK σ → F_X11_carried_J22 N  v1 t0 σ = some res → At p l e rm_X11_carried s m args below meth c 0 0 g 3 (MQ below (QI g s.heap.size res.1 res.2 inR) args s 0 0 (AA g s.heap.size)) 22 [(0, vr g 0), (1, vi v1)] [vi t0] σ := by
        intro v1 t0 σ h1 ht0 ok hF
        unfold F_X11_carried_J22 at hF
        refine at_istore_n (pc := 22) (lv' := [(2, vi t0), (0, vr g 0), (1, vi v1)]) C dX11_carried_22 rfl (Nat.le_of_ble_eq_true rfl) rfl ?_
        refine at_iload_n (pc := 23) C 2 dX11_carried_23 rfl rfl ?_
        refine at_iconst (pc := 24) C dX11_carried_24 ?_
        refine at_icmp_lt (pc := 25) (tgt := 34) C h1 (show inR 2 from ⟨by decide, by decide⟩) dX11_carried_25 rfl (fun c3 => ?_) (fun c3 => ?_)
        · have hF := (if_pos c3).symm.trans hF
          refine at_aload_n (pc := 34) C 1 dX11_carried_34 rfl rfl ?_
          obtain ⟨q4, eq4, hF⟩ := bind_some' hF
          refine at_callVv (pc := 35) (ci := 11) C (c_X11_refreshFlow l g N  σ q4  ok eq4) kv_X11_refreshFlow w945 kd0 rfl rfl rfl rfl (Nat.le_of_ble_eq_true rfl) ⟨rfl, rfl, (Nat.le_of_ble_eq_true rfl), (Nat.le_of_ble_eq_true rfl)⟩ dX11_carried_35 (fun okq4 => ?_)
          refine at_aload_n (pc := 38) C 1 dX11_carried_38 rfl rfl ?_
          refine at_iload_n (pc := 39) C 0 dX11_carried_39 rfl rfl ?_
          obtain ⟨q5, eq5, hF⟩ := bind_some' hF
          refine at_callV (pc := 40) (ci := 11) C (c_X11_reliefOn l g N t0 q4 q5 ht0 okq4 eq5) kv_X11_reliefOn w1058 kd0 rfl rfl rfl rfl (Nat.le_of_ble_eq_true rfl) ⟨rfl, rfl, (Nat.le_of_ble_eq_true rfl), (Nat.le_of_ble_eq_true rfl)⟩ dX11_carried_40 (fun tq5 okq5 => ?_)
          obtain rfl := Option.some.inj hF
          exact at_iret (pc := 43) C hr hlk tq5 okq4 dX11_carried_43
        · have hF := (if_neg c3).symm.trans hF
          refine at_aload_n (pc := 28) C 1 dX11_carried_28 rfl rfl ?_
          refine at_iload_n (pc := 29) C 0 dX11_carried_29 rfl rfl ?_
          obtain ⟨q6, eq6, hF⟩ := bind_some' hF
          refine at_callV (pc := 30) (ci := 11) C (c_X11_claimsOn l g N t0 σ q6 ht0 ok eq6) kv_X11_claimsOn w1053 kd0 rfl rfl rfl rfl (Nat.le_of_ble_eq_true rfl) ⟨rfl, rfl, (Nat.le_of_ble_eq_true rfl), (Nat.le_of_ble_eq_true rfl)⟩ dX11_carried_30 (fun tq6 okq6 => ?_)
          obtain rfl := Option.some.inj hF
          exact at_iret (pc := 33) C hr hlk tq6 ok dX11_carried_33
      refine at_iload_n (pc := 11) C 1 dX11_carried_11 rfl rfl ?_
      refine at_iconst (pc := 12) C dX11_carried_12 ?_
      refine at_iand (pc := 13) C dX11_carried_13 ?_
      refine at_if_ne (pc := 14) (tgt := 21) C (jand_R v1 1) dX11_carried_14 rfl (fun c7 => ?_) (fun c7 => ?_)
      · have hF := (if_neg c7).symm.trans hF
        refine at_iconst (pc := 21) C dX11_carried_21 ?_
        exact J22 v1 0 σ h1 (Or.inl rfl) ok hF
      · have hF := (if_pos c7).symm.trans hF
        refine at_iconst (pc := 17) C dX11_carried_17 ?_
        refine at_goto (pc := 18) (tgt := 22) C dX11_carried_18 rfl ?_
        exact J22 v1 1 σ h1 (Or.inr rfl) ok hF
    · have hF := (if_neg c2).symm.trans hF
      refine at_iconst (pc := 9) C dX11_carried_9 ?_
      obtain rfl := Option.some.inj hF
      exact at_iret (pc := 10) C hr hlk (show inR (-1) from ⟨by decide, by decide⟩) ok dX11_carried_10
abbrev rm_X11_paidForRelief : Room := { frames := 2, cells := 0, slots := 0, locals := 45 }
def F_X11_paidForRelief_J93 (N : Nat) (nx5 : (Int × Int) → Option (Int)) (v1 : Int) (v2 : Int) (v3 : Int) (v4 : Int) (σ : Sto) : Option (Int) :=
  nx5 (v3, (ja v4 1))
def F_X11_paidForRelief_J87 (N : Nat) (nx5 : (Int × Int) → Option (Int)) (nx20 : (Int × Int) → Option (Int)) (v1 : Int) (v2 : Int) (v3 : Int) (v4 : Int) (v5 : Int) (σ : Sto) : Option (Int) :=
  nx20 (v3, (ja v5 1))
def F_X11_paidForRelief_B20 (N : Nat) (nx5 : (Int × Int) → Option (Int)) (nx20 : (Int × Int) → Option (Int)) (v1 : Int) (v2 : Int) (v4 : Int) (v3 : Int) (v5 : Int) (σ : Sto) : Option (Int) :=
  asB (σ.1 0 1) (fun b3 => if (σ.1 b3 9) ≤ v5 then (F_X11_paidForRelief_J93 N nx5 v1 v2 v3 v4 σ) else (inb (ja (jm v4 12) v5) 144 (if (σ.1 63 (ja (jm v4 12) v5)) ≤ 0 then (F_X11_paidForRelief_J87 N nx5 nx20 v1 v2 v3 v4 v5 σ) else (asB (σ.1 0 1) (fun b7 => (F_X0_isBetween N b7 v4 v5 v1 v2 σ).bind (fun q8 => if q8 = 0 then (F_X11_paidForRelief_J87 N nx5 nx20 v1 v2 v3 v4 v5 σ) else (asB (σ.1 0 1) (fun b10 => (F_X0_paidFor N b10 v4 v5 (σ.1 63 (ja (jm v4 12) v5)) σ).bind (fun q11 => F_X11_paidForRelief_J87 N nx5 nx20 v1 v2 (ja v3 q11) v4 v5 σ)))))))))
def F_X11_paidForRelief_B5 (N : Nat) (nx5 : (Int × Int) → Option (Int)) (v1 : Int) (v2 : Int) (v3 : Int) (v4 : Int) (σ : Sto) : Option (Int) :=
  asB (σ.1 0 1) (fun b1 => if (σ.1 b1 9) ≤ v4 then (some v3) else (loopK (fun q nx20 => F_X11_paidForRelief_B20 N nx5 nx20 v1 v2 v4 q.1 q.2 σ) N (v3, 0)))
def F_X11_paidForRelief (N : Nat) (v1 : Int) (v2 : Int) (σ : Sto) : Option (Int) :=
  loopK (fun q nx5 => F_X11_paidForRelief_B5 N  nx5 v1 v2 q.1 q.2 σ) N (0, 0)
set_option maxHeartbeats 4000000 in
set_option maxRecDepth 100000 in
theorem c_X11_paidForRelief (l : Launch) (g : Geo) (N : Nat) (v1 : Int) (v2 : Int) (σ : Sto) (res : Int) (h1 : inR v1) (h2 : inR v2) (ok : OK σ) (hF : F_X11_paidForRelief N v1 v2 σ = some res) : MtI l g yX11_paidForRelief cX11_paidForRelief 7 (some .int) rm_X11_paidForRelief [vr g 0, vi v1, vi v2] σ res σ inR := by
  intro sz
  refine Met.ofAt (own := RX11) (QQ := fun z => QI g z res σ inR) (by decide +kernel) (Nat.le_of_ble_eq_true rfl) rfl ?_
  intro p e s m args below meth c C hr hlk
  show At p l e rm_X11_paidForRelief s m args below meth c 0 0 g 7 (MQ below (QI g s.heap.size res σ inR) args s 0 0 (AA g s.heap.size)) 0 [(0, vr g 0), (1, vi v1), (2, vi v2)] [] σ
  unfold F_X11_paidForRelief at hF
  refine at_iconst (pc := 0) C dX11_paidForRelief_0 ?_
  refine at_istore_n (pc := 1) (lv' := [(3, vi 0), (0, vr g 0), (1, vi v1), (2, vi v2)]) C dX11_paidForRelief_1 rfl (Nat.le_of_ble_eq_true rfl) rfl ?_
  refine at_iconst (pc := 2) C dX11_paidForRelief_2 ?_
  refine at_istore (pc := 3) (lv' := [(4, vi 0), (3, vi 0), (0, vr g 0), (1, vi v1), (2, vi v2)]) C dX11_paidForRelief_3 (Nat.le_of_ble_eq_true rfl) rfl ?_
  have L5 : ∀ (v1 : Int) (v2 : Int) (v3 : Int) (v4 : Int), inR v1 → inR v2 → inR v3 → inR v4 → loopK (fun q nx5 => F_X11_paidForRelief_B5 N  nx5 v1 v2 q.1 q.2 σ) N (v3, v4) = some res → At p l e rm_X11_paidForRelief s m args below meth c 0 0 g 7 (MQ below (QI g s.heap.size res σ inR) args s 0 0 (AA g s.heap.size)) 5 [(0, vr g 0), (1, vi v1), (2, vi v2), (3, vi v3), (4, vi v4)] [] σ := by
    intro v1 v2 v3 v4 h1 h2 h3 h4 hF
    refine loopK_ind (res := res) (P := fun (q : Int × Int) => inR q.1 → inR q.2 → At p l e rm_X11_paidForRelief s m args below meth c 0 0 g 7 (MQ below (QI g s.heap.size res σ inR) args s 0 0 (AA g s.heap.size)) 5 [(0, vr g 0), (1, vi v1), (2, vi v2), (3, vi q.1), (4, vi q.2)] [] σ) ?_ N _ hF h3 h4
    intro nx5 q ih5 hF
    obtain ⟨v3, v4⟩ := q
    intro h3 h4
    have hF : F_X11_paidForRelief_B5 N  nx5 v1 v2 v3 v4 σ = some res := hF
    unfold F_X11_paidForRelief_B5 at hF
    refine at_iload (pc := 5) C 4 dX11_paidForRelief_5 rfl ?_
    refine at_aload_n (pc := 7) C 0 dX11_paidForRelief_7 rfl rfl ?_
    obtain ⟨b1, eb1, kb1, hF⟩ := asB_some hF
    refine at_getd (pc := 8) (jz := 1) (k2 := b1) C fw_11_19 kd0 rfl (Nat.le_of_ble_eq_true rfl) rfl rfl eb1 dX11_paidForRelief_8 ?_
    refine at_geti (pc := 11) (jz := 9) C fw_11_324 kb1 rfl (Nat.le_of_ble_eq_true rfl) rfl rfl dX11_paidForRelief_11 ?_
    refine at_icmp_ge (pc := 14) (tgt := 99) C h4 (ok b1 9) dX11_paidForRelief_14 rfl (fun c2 => ?_) (fun c2 => ?_)
    · have hF := (if_pos c2).symm.trans hF
      refine at_iload_n (pc := 99) C 3 dX11_paidForRelief_99 rfl rfl ?_
      obtain rfl := Option.some.inj hF
      exact at_iret (pc := 100) C hr hlk h3 ok dX11_paidForRelief_100
    · have hF := (if_neg c2).symm.trans hF
      refine at_iconst (pc := 17) C dX11_paidForRelief_17 ?_
      refine at_istore (pc := 18) (lv' := [(5, vi 0), (0, vr g 0), (1, vi v1), (2, vi v2), (3, vi v3), (4, vi v4)]) C dX11_paidForRelief_18 (Nat.le_of_ble_eq_true rfl) rfl ?_
      have L20 : ∀ (v3 : Int) (v4 : Int) (v5 : Int), inR v3 → inR v4 → inR v5 → loopK (fun q nx20 => F_X11_paidForRelief_B20 N nx5 nx20 v1 v2 v4 q.1 q.2 σ) N (v3, v5) = some res → At p l e rm_X11_paidForRelief s m args below meth c 0 0 g 7 (MQ below (QI g s.heap.size res σ inR) args s 0 0 (AA g s.heap.size)) 20 [(0, vr g 0), (1, vi v1), (2, vi v2), (3, vi v3), (4, vi v4), (5, vi v5)] [] σ := by
        intro v3 v4 v5 h3 h4 h5 hF
        refine loopK_ind (res := res) (P := fun (q : Int × Int) => inR q.1 → inR q.2 → At p l e rm_X11_paidForRelief s m args below meth c 0 0 g 7 (MQ below (QI g s.heap.size res σ inR) args s 0 0 (AA g s.heap.size)) 20 [(0, vr g 0), (1, vi v1), (2, vi v2), (3, vi q.1), (4, vi v4), (5, vi q.2)] [] σ) ?_ N _ hF h3 h5
        intro nx20 q ih20 hF
        obtain ⟨v3, v5⟩ := q
        intro h3 h5
        have hF : F_X11_paidForRelief_B20 N nx5 nx20 v1 v2 v4 v3 v5 σ = some res := hF
        unfold F_X11_paidForRelief_B20 at hF
        have J93 : ∀ (v3 : Int) (v4 : Int), inR v3 → inR v4 → F_X11_paidForRelief_J93 N nx5 v1 v2 v3 v4 σ = some res → At p l e rm_X11_paidForRelief s m args below meth c 0 0 g 7 (MQ below (QI g s.heap.size res σ inR) args s 0 0 (AA g s.heap.size)) 93 [(0, vr g 0), (1, vi v1), (2, vi v2), (3, vi v3), (4, vi v4)] [] σ := by
          intro v3 v4 h3 h4 hF
          unfold F_X11_paidForRelief_J93 at hF
          refine at_iinc (pc := 93) (lv' := [(4, vi (ja v4 1)), (0, vr g 0), (1, vi v1), (2, vi v2), (3, vi v3)]) C 4 dX11_paidForRelief_93 rfl (Nat.le_of_ble_eq_true rfl) rfl ?_
          refine at_goto (pc := 96) (tgt := 5) C dX11_paidForRelief_96 rfl ?_
          refine at_sub (lv' := [(0, vr g 0), (1, vi v1), (2, vi v2), (3, vi v3), (4, vi (ja v4 1))]) [1, 2, 3, 4, 0] rfl ?_
          exact ih5 _ hF h3 (ja_R v4 1)
        refine at_iload (pc := 20) C 5 dX11_paidForRelief_20 rfl ?_
        refine at_aload_n (pc := 22) C 0 dX11_paidForRelief_22 rfl rfl ?_
        obtain ⟨b3, eb3, kb3, hF⟩ := asB_some hF
        refine at_getd (pc := 23) (jz := 1) (k2 := b3) C fw_11_19 kd0 rfl (Nat.le_of_ble_eq_true rfl) rfl rfl eb3 dX11_paidForRelief_23 ?_
        refine at_geti (pc := 26) (jz := 9) C fw_11_324 kb3 rfl (Nat.le_of_ble_eq_true rfl) rfl rfl dX11_paidForRelief_26 ?_
        refine at_icmp_ge (pc := 29) (tgt := 93) C h5 (ok b3 9) dX11_paidForRelief_29 rfl (fun c4 => ?_) (fun c4 => ?_)
        · have hF := (if_pos c4).symm.trans hF
          refine at_sub (lv' := [(0, vr g 0), (1, vi v1), (2, vi v2), (3, vi v3), (4, vi v4)]) [0, 1, 2, 3, 4] rfl ?_
          exact J93 v3 v4 h3 h4 hF
        · have hF := (if_neg c4).symm.trans hF
          have J87 : ∀ (v3 : Int) (v5 : Int), inR v3 → inR v5 → F_X11_paidForRelief_J87 N nx5 nx20 v1 v2 v3 v4 v5 σ = some res → At p l e rm_X11_paidForRelief s m args below meth c 0 0 g 7 (MQ below (QI g s.heap.size res σ inR) args s 0 0 (AA g s.heap.size)) 87 [(0, vr g 0), (1, vi v1), (2, vi v2), (3, vi v3), (4, vi v4), (5, vi v5)] [] σ := by
            intro v3 v5 h3 h5 hF
            unfold F_X11_paidForRelief_J87 at hF
            refine at_iinc (pc := 87) (lv' := [(5, vi (ja v5 1)), (0, vr g 0), (1, vi v1), (2, vi v2), (3, vi v3), (4, vi v4)]) C 5 dX11_paidForRelief_87 rfl (Nat.le_of_ble_eq_true rfl) rfl ?_
            refine at_goto (pc := 90) (tgt := 20) C dX11_paidForRelief_90 rfl ?_
            refine at_sub (lv' := [(0, vr g 0), (1, vi v1), (2, vi v2), (3, vi v3), (4, vi v4), (5, vi (ja v5 1))]) [1, 2, 3, 4, 5, 0] rfl ?_
            exact ih20 _ hF h3 (ja_R v5 1)
          refine at_aload_n (pc := 32) C 0 dX11_paidForRelief_32 rfl rfl ?_
          refine at_getr (pc := 33) (k' := 58) C 58 fw_11_71 kd0 rfl (Nat.le_of_ble_eq_true rfl) rfl rfl dX11_paidForRelief_33 ?_
          refine at_getr (pc := 36) (k' := 63) C 5 fw_11_327 kd58 rfl (Nat.le_of_ble_eq_true rfl) rfl rfl dX11_paidForRelief_36 ?_
          refine at_iload (pc := 39) C 4 dX11_paidForRelief_39 rfl ?_
          refine at_bipush (pc := 41) C dX11_paidForRelief_41 (by decide) ?_
          refine at_imul (pc := 43) C dX11_paidForRelief_43 ?_
          refine at_iload (pc := 44) C 5 dX11_paidForRelief_44 rfl ?_
          refine at_iadd (pc := 46) C dX11_paidForRelief_46 ?_
          obtain ⟨b5, hF⟩ := inb_some hF
          refine at_iaload (pc := 47) C kd63 b5 dX11_paidForRelief_47 ?_
          refine at_istore (pc := 48) (lv' := [(6, vi (σ.1 63 (ja (jm v4 12) v5))), (0, vr g 0), (1, vi v1), (2, vi v2), (3, vi v3), (4, vi v4), (5, vi v5)]) C dX11_paidForRelief_48 (Nat.le_of_ble_eq_true rfl) rfl ?_
          refine at_iload (pc := 50) C 0 dX11_paidForRelief_50 rfl ?_
          refine at_if_le (pc := 52) (tgt := 87) C (ok 63 (ja (jm v4 12) v5)) dX11_paidForRelief_52 rfl (fun c6 => ?_) (fun c6 => ?_)
          · have hF := (if_pos c6).symm.trans hF
            refine at_sub (lv' := [(0, vr g 0), (1, vi v1), (2, vi v2), (3, vi v3), (4, vi v4), (5, vi v5)]) [1, 2, 3, 4, 5, 6] rfl ?_
            exact J87 v3 v5 h3 h5 hF
          · have hF := (if_neg c6).symm.trans hF
            refine at_aload_n (pc := 55) C 1 dX11_paidForRelief_55 rfl rfl ?_
            obtain ⟨b7, eb7, kb7, hF⟩ := asB_some hF
            refine at_getd (pc := 56) (jz := 1) (k2 := b7) C fw_11_19 kd0 rfl (Nat.le_of_ble_eq_true rfl) rfl rfl eb7 dX11_paidForRelief_56 ?_
            refine at_iload (pc := 59) C 5 dX11_paidForRelief_59 rfl ?_
            refine at_iload (pc := 61) C 6 dX11_paidForRelief_61 rfl ?_
            refine at_iload_n (pc := 63) C 2 dX11_paidForRelief_63 rfl rfl ?_
            refine at_iload_n (pc := 64) C 3 dX11_paidForRelief_64 rfl rfl ?_
            obtain ⟨q8, eq8, hF⟩ := bind_some' hF
            refine at_callV (pc := 65) (ci := 0) C (c_X0_isBetween l g N b7 v4 v5 v1 v2 σ q8 kb7 h4 h5 h1 h2 ok eq8) kv_X0_isBetween w1070 kb7 rfl rfl rfl rfl (Nat.le_of_ble_eq_true rfl) ⟨rfl, rfl, (Nat.le_of_ble_eq_true rfl), (Nat.le_of_ble_eq_true rfl)⟩ dX11_paidForRelief_65 (fun tq8 okq8 => ?_)
            refine at_if_eq (pc := 68) (tgt := 87) C (isB.r tq8) dX11_paidForRelief_68 rfl (fun c9 => ?_) (fun c9 => ?_)
            · have hF := (if_pos c9).symm.trans hF
              refine at_sub (lv' := [(0, vr g 0), (1, vi v1), (2, vi v2), (3, vi v3), (4, vi v4), (5, vi v5)]) [1, 2, 3, 4, 5, 6] rfl ?_
              exact J87 v3 v5 h3 h5 hF
            · have hF := (if_neg c9).symm.trans hF
              refine at_iload_n (pc := 71) C 4 dX11_paidForRelief_71 rfl rfl ?_
              refine at_aload_n (pc := 72) C 1 dX11_paidForRelief_72 rfl rfl ?_
              obtain ⟨b10, eb10, kb10, hF⟩ := asB_some hF
              refine at_getd (pc := 73) (jz := 1) (k2 := b10) C fw_11_19 kd0 rfl (Nat.le_of_ble_eq_true rfl) rfl rfl eb10 dX11_paidForRelief_73 ?_
              refine at_iload (pc := 76) C 5 dX11_paidForRelief_76 rfl ?_
              refine at_iload (pc := 78) C 6 dX11_paidForRelief_78 rfl ?_
              refine at_iload (pc := 80) C 0 dX11_paidForRelief_80 rfl ?_
              obtain ⟨q11, eq11, hF⟩ := bind_some' hF
              refine at_callV (pc := 82) (ci := 0) C (c_X0_paidFor l g N b10 v4 v5 (σ.1 63 (ja (jm v4 12) v5)) σ q11 kb10 h4 h5 (ok 63 (ja (jm v4 12) v5)) ok eq11) kv_X0_paidFor w937 kb10 rfl rfl rfl rfl (Nat.le_of_ble_eq_true rfl) ⟨rfl, rfl, (Nat.le_of_ble_eq_true rfl), (Nat.le_of_ble_eq_true rfl)⟩ dX11_paidForRelief_82 (fun tq11 okq11 => ?_)
              refine at_iadd (pc := 85) C dX11_paidForRelief_85 ?_
              refine at_istore_n (pc := 86) (lv' := [(3, vi (ja v3 q11)), (6, vi (σ.1 63 (ja (jm v4 12) v5))), (0, vr g 0), (1, vi v1), (2, vi v2), (4, vi v4), (5, vi v5)]) C dX11_paidForRelief_86 rfl (Nat.le_of_ble_eq_true rfl) rfl ?_
              refine at_sub (lv' := [(0, vr g 0), (1, vi v1), (2, vi v2), (3, vi (ja v3 q11)), (4, vi v4), (5, vi v5)]) [2, 3, 4, 0, 5, 6] rfl ?_
              exact J87 (ja v3 q11) v5 (ja_R v3 q11) h5 hF
      refine at_sub (lv' := [(0, vr g 0), (1, vi v1), (2, vi v2), (3, vi v3), (4, vi v4), (5, vi 0)]) [1, 2, 3, 4, 5, 0] rfl ?_
      exact L20 v3 v4 0 h3 h4 (isB.r (Or.inl rfl)) hF
  refine at_sub (lv' := [(0, vr g 0), (1, vi v1), (2, vi v2), (3, vi 0), (4, vi 0)]) [2, 3, 4, 1, 0] rfl ?_
  exact L5 v1 v2 0 0 h1 h2 (isB.r (Or.inl rfl)) (isB.r (Or.inl rfl)) hF
abbrev rm_X11_paidForClaims : Room := { frames := 2, cells := 0, slots := 0, locals := 45 }
def F_X11_paidForClaims_J81 (N : Nat) (nx5 : (Int × Int) → Option (Int)) (v1 : Int) (v2 : Int) (v3 : Int) (v4 : Int) (σ : Sto) : Option (Int) :=
  nx5 (v3, (ja v4 1))
def F_X11_paidForClaims_B5 (N : Nat) (nx5 : (Int × Int) → Option (Int)) (v1 : Int) (v2 : Int) (v3 : Int) (v4 : Int) (σ : Sto) : Option (Int) :=
  if (σ.1 29 3) ≤ v4 then (some v3) else (inb v4 30 (asB (σ.1 0 1) (fun b3 => (F_X0_isBetween N b3 (σ.1 30 v4) (σ.1 31 v4) v1 v2 σ).bind (fun q4 => if q4 = 0 then (F_X11_paidForClaims_J81 N nx5 v1 v2 v3 v4 σ) else (asB (σ.1 0 1) (fun b6 => (F_X0_paidFor N b6 (σ.1 30 v4) (σ.1 31 v4) (σ.1 32 v4) σ).bind (fun q7 => F_X11_paidForClaims_J81 N nx5 v1 v2 (ja v3 q7) v4 σ)))))))
def F_X11_paidForClaims (N : Nat) (v1 : Int) (v2 : Int) (σ : Sto) : Option (Int) :=
  loopK (fun q nx5 => F_X11_paidForClaims_B5 N  nx5 v1 v2 q.1 q.2 σ) N (0, 0)
set_option maxHeartbeats 4000000 in
set_option maxRecDepth 100000 in
theorem c_X11_paidForClaims (l : Launch) (g : Geo) (N : Nat) (v1 : Int) (v2 : Int) (σ : Sto) (res : Int) (h1 : inR v1) (h2 : inR v2) (ok : OK σ) (hF : F_X11_paidForClaims N v1 v2 σ = some res) : MtI l g yX11_paidForClaims cX11_paidForClaims 7 (some .int) rm_X11_paidForClaims [vr g 0, vi v1, vi v2] σ res σ inR := by
  intro sz
  refine Met.ofAt (own := RX11) (QQ := fun z => QI g z res σ inR) (by decide +kernel) (Nat.le_of_ble_eq_true rfl) rfl ?_
  intro p e s m args below meth c C hr hlk
  show At p l e rm_X11_paidForClaims s m args below meth c 0 0 g 7 (MQ below (QI g s.heap.size res σ inR) args s 0 0 (AA g s.heap.size)) 0 [(0, vr g 0), (1, vi v1), (2, vi v2)] [] σ
  unfold F_X11_paidForClaims at hF
  refine at_iconst (pc := 0) C dX11_paidForClaims_0 ?_
  refine at_istore_n (pc := 1) (lv' := [(3, vi 0), (0, vr g 0), (1, vi v1), (2, vi v2)]) C dX11_paidForClaims_1 rfl (Nat.le_of_ble_eq_true rfl) rfl ?_
  refine at_iconst (pc := 2) C dX11_paidForClaims_2 ?_
  refine at_istore (pc := 3) (lv' := [(4, vi 0), (3, vi 0), (0, vr g 0), (1, vi v1), (2, vi v2)]) C dX11_paidForClaims_3 (Nat.le_of_ble_eq_true rfl) rfl ?_
  have L5 : ∀ (v1 : Int) (v2 : Int) (v3 : Int) (v4 : Int), inR v1 → inR v2 → inR v3 → inR v4 → loopK (fun q nx5 => F_X11_paidForClaims_B5 N  nx5 v1 v2 q.1 q.2 σ) N (v3, v4) = some res → At p l e rm_X11_paidForClaims s m args below meth c 0 0 g 7 (MQ below (QI g s.heap.size res σ inR) args s 0 0 (AA g s.heap.size)) 5 [(0, vr g 0), (1, vi v1), (2, vi v2), (3, vi v3), (4, vi v4)] [] σ := by
    intro v1 v2 v3 v4 h1 h2 h3 h4 hF
    refine loopK_ind (res := res) (P := fun (q : Int × Int) => inR q.1 → inR q.2 → At p l e rm_X11_paidForClaims s m args below meth c 0 0 g 7 (MQ below (QI g s.heap.size res σ inR) args s 0 0 (AA g s.heap.size)) 5 [(0, vr g 0), (1, vi v1), (2, vi v2), (3, vi q.1), (4, vi q.2)] [] σ) ?_ N _ hF h3 h4
    intro nx5 q ih5 hF
    obtain ⟨v3, v4⟩ := q
    intro h3 h4
    have hF : F_X11_paidForClaims_B5 N  nx5 v1 v2 v3 v4 σ = some res := hF
    unfold F_X11_paidForClaims_B5 at hF
    refine at_iload (pc := 5) C 4 dX11_paidForClaims_5 rfl ?_
    refine at_aload_n (pc := 7) C 0 dX11_paidForClaims_7 rfl rfl ?_
    refine at_getr (pc := 8) (k' := 29) C 29 fw_11_29 kd0 rfl (Nat.le_of_ble_eq_true rfl) rfl rfl dX11_paidForClaims_8 ?_
    refine at_geti (pc := 11) (jz := 3) C fw_11_273 kd29 rfl (Nat.le_of_ble_eq_true rfl) rfl rfl dX11_paidForClaims_11 ?_
    refine at_icmp_ge (pc := 14) (tgt := 87) C h4 (ok 29 3) dX11_paidForClaims_14 rfl (fun c1 => ?_) (fun c1 => ?_)
    · have hF := (if_pos c1).symm.trans hF
      refine at_iload_n (pc := 87) C 3 dX11_paidForClaims_87 rfl rfl ?_
      obtain rfl := Option.some.inj hF
      exact at_iret (pc := 88) C hr hlk h3 ok dX11_paidForClaims_88
    · have hF := (if_neg c1).symm.trans hF
      have J81 : ∀ (v3 : Int) (v4 : Int), inR v3 → inR v4 → F_X11_paidForClaims_J81 N nx5 v1 v2 v3 v4 σ = some res → At p l e rm_X11_paidForClaims s m args below meth c 0 0 g 7 (MQ below (QI g s.heap.size res σ inR) args s 0 0 (AA g s.heap.size)) 81 [(0, vr g 0), (1, vi v1), (2, vi v2), (3, vi v3), (4, vi v4)] [] σ := by
        intro v3 v4 h3 h4 hF
        unfold F_X11_paidForClaims_J81 at hF
        refine at_iinc (pc := 81) (lv' := [(4, vi (ja v4 1)), (0, vr g 0), (1, vi v1), (2, vi v2), (3, vi v3)]) C 4 dX11_paidForClaims_81 rfl (Nat.le_of_ble_eq_true rfl) rfl ?_
        refine at_goto (pc := 84) (tgt := 5) C dX11_paidForClaims_84 rfl ?_
        refine at_sub (lv' := [(0, vr g 0), (1, vi v1), (2, vi v2), (3, vi v3), (4, vi (ja v4 1))]) [1, 2, 3, 4, 0] rfl ?_
        exact ih5 _ hF h3 (ja_R v4 1)
      refine at_aload_n (pc := 17) C 0 dX11_paidForClaims_17 rfl rfl ?_
      refine at_getr (pc := 18) (k' := 29) C 29 fw_11_29 kd0 rfl (Nat.le_of_ble_eq_true rfl) rfl rfl dX11_paidForClaims_18 ?_
      refine at_getr (pc := 21) (k' := 30) C 1 fw_11_274 kd29 rfl (Nat.le_of_ble_eq_true rfl) rfl rfl dX11_paidForClaims_21 ?_
      refine at_iload (pc := 24) C 4 dX11_paidForClaims_24 rfl ?_
      obtain ⟨b2, hF⟩ := inb_some hF
      refine at_iaload (pc := 26) C kd30 b2 dX11_paidForClaims_26 ?_
      refine at_istore (pc := 27) (lv' := [(5, vi (σ.1 30 v4)), (0, vr g 0), (1, vi v1), (2, vi v2), (3, vi v3), (4, vi v4)]) C dX11_paidForClaims_27 (Nat.le_of_ble_eq_true rfl) rfl ?_
      refine at_aload_n (pc := 29) C 1 dX11_paidForClaims_29 rfl rfl ?_
      refine at_getr (pc := 30) (k' := 29) C 29 fw_11_29 kd0 rfl (Nat.le_of_ble_eq_true rfl) rfl rfl dX11_paidForClaims_30 ?_
      refine at_getr (pc := 33) (k' := 31) C 2 fw_11_277 kd29 rfl (Nat.le_of_ble_eq_true rfl) rfl rfl dX11_paidForClaims_33 ?_
      refine at_iload (pc := 36) C 5 dX11_paidForClaims_36 rfl ?_
      refine at_iaload (pc := 38) C kd31 b2 dX11_paidForClaims_38 ?_
      refine at_istore (pc := 39) (lv' := [(6, vi (σ.1 31 v4)), (5, vi (σ.1 30 v4)), (0, vr g 0), (1, vi v1), (2, vi v2), (3, vi v3), (4, vi v4)]) C dX11_paidForClaims_39 (Nat.le_of_ble_eq_true rfl) rfl ?_
      refine at_aload_n (pc := 41) C 2 dX11_paidForClaims_41 rfl rfl ?_
      obtain ⟨b3, eb3, kb3, hF⟩ := asB_some hF
      refine at_getd (pc := 42) (jz := 1) (k2 := b3) C fw_11_19 kd0 rfl (Nat.le_of_ble_eq_true rfl) rfl rfl eb3 dX11_paidForClaims_42 ?_
      refine at_iload (pc := 45) C 1 dX11_paidForClaims_45 rfl ?_
      refine at_iload (pc := 47) C 0 dX11_paidForClaims_47 rfl ?_
      refine at_iload_n (pc := 49) C 3 dX11_paidForClaims_49 rfl rfl ?_
      refine at_iload_n (pc := 50) C 4 dX11_paidForClaims_50 rfl rfl ?_
      obtain ⟨q4, eq4, hF⟩ := bind_some' hF
      refine at_callV (pc := 51) (ci := 0) C (c_X0_isBetween l g N b3 (σ.1 30 v4) (σ.1 31 v4) v1 v2 σ q4 kb3 (ok 30 v4) (ok 31 v4) h1 h2 ok eq4) kv_X0_isBetween w1070 kb3 rfl rfl rfl rfl (Nat.le_of_ble_eq_true rfl) ⟨rfl, rfl, (Nat.le_of_ble_eq_true rfl), (Nat.le_of_ble_eq_true rfl)⟩ dX11_paidForClaims_51 (fun tq4 okq4 => ?_)
      refine at_if_eq (pc := 54) (tgt := 81) C (isB.r tq4) dX11_paidForClaims_54 rfl (fun c5 => ?_) (fun c5 => ?_)
      · have hF := (if_pos c5).symm.trans hF
        refine at_sub (lv' := [(0, vr g 0), (1, vi v1), (2, vi v2), (3, vi v3), (4, vi v4)]) [2, 3, 4, 5, 6] rfl ?_
        exact J81 v3 v4 h3 h4 hF
      · have hF := (if_neg c5).symm.trans hF
        refine at_iload_n (pc := 57) C 5 dX11_paidForClaims_57 rfl rfl ?_
        refine at_aload_n (pc := 58) C 2 dX11_paidForClaims_58 rfl rfl ?_
        obtain ⟨b6, eb6, kb6, hF⟩ := asB_some hF
        refine at_getd (pc := 59) (jz := 1) (k2 := b6) C fw_11_19 kd0 rfl (Nat.le_of_ble_eq_true rfl) rfl rfl eb6 dX11_paidForClaims_59 ?_
        refine at_iload (pc := 62) C 1 dX11_paidForClaims_62 rfl ?_
        refine at_iload (pc := 64) C 0 dX11_paidForClaims_64 rfl ?_
        refine at_aload_n (pc := 66) C 2 dX11_paidForClaims_66 rfl rfl ?_
        refine at_getr (pc := 67) (k' := 29) C 29 fw_11_29 kd0 rfl (Nat.le_of_ble_eq_true rfl) rfl rfl dX11_paidForClaims_67 ?_
        refine at_getr (pc := 70) (k' := 32) C 3 fw_11_311 kd29 rfl (Nat.le_of_ble_eq_true rfl) rfl rfl dX11_paidForClaims_70 ?_
        refine at_iload (pc := 73) C 6 dX11_paidForClaims_73 rfl ?_
        refine at_iaload (pc := 75) C kd32 b2 dX11_paidForClaims_75 ?_
        obtain ⟨q7, eq7, hF⟩ := bind_some' hF
        refine at_callV (pc := 76) (ci := 0) C (c_X0_paidFor l g N b6 (σ.1 30 v4) (σ.1 31 v4) (σ.1 32 v4) σ q7 kb6 (ok 30 v4) (ok 31 v4) (ok 32 v4) ok eq7) kv_X0_paidFor w937 kb6 rfl rfl rfl rfl (Nat.le_of_ble_eq_true rfl) ⟨rfl, rfl, (Nat.le_of_ble_eq_true rfl), (Nat.le_of_ble_eq_true rfl)⟩ dX11_paidForClaims_76 (fun tq7 okq7 => ?_)
        refine at_iadd (pc := 79) C dX11_paidForClaims_79 ?_
        refine at_istore_n (pc := 80) (lv' := [(3, vi (ja v3 q7)), (6, vi (σ.1 31 v4)), (5, vi (σ.1 30 v4)), (0, vr g 0), (1, vi v1), (2, vi v2), (4, vi v4)]) C dX11_paidForClaims_80 rfl (Nat.le_of_ble_eq_true rfl) rfl ?_
        refine at_sub (lv' := [(0, vr g 0), (1, vi v1), (2, vi v2), (3, vi (ja v3 q7)), (4, vi v4)]) [3, 4, 5, 0, 6] rfl ?_
        exact J81 (ja v3 q7) v4 (ja_R v3 q7) h4 hF
  refine at_sub (lv' := [(0, vr g 0), (1, vi v1), (2, vi v2), (3, vi 0), (4, vi 0)]) [2, 3, 4, 1, 0] rfl ?_
  exact L5 v1 v2 0 0 h1 h2 (isB.r (Or.inl rfl)) (isB.r (Or.inl rfl)) hF
